def jl_Law_says : List qm_I := [(0, .iconst 0, 1, 1), (1, .istore_n 2, 1, 2), (2, .iconst 0, 1, 3), (3, .istore_n 3, 1, 4), (4, .iload_n 3, 1, 5), (5, .aload_n 1, 1, 6), (6, .invokeinterface 8 1, 5, 11), (11, .if_icmp .ge 100, 3, 14), (14, .iconst 5, 1, 15), (15, .newarray .int, 2, 17), (17, .astore 4, 2, 19), (19, .iconst 0, 1, 20), (20, .istore 5, 2, 22), (22, .iload 5, 2, 24), (24, .bipush 20, 2, 26), (26, .if_icmp .ge 54, 3, 29), (29, .aload 4, 2, 31), (31, .iload 5, 2, 33), (33, .iconst 4, 1, 34), (34, .idiv, 1, 35), (35, .aload 4, 2, 37), (37, .iload 5, 2, 39), (39, .iconst 4, 1, 40), (40, .idiv, 1, 41), (41, .iaload, 1, 42), (42, .bipush 8, 2, 44), (44, .ishl, 1, 45), (45, .iload_n 3, 1, 46), (46, .iload 5, 2, 48), (48, .iadd, 1, 49), (49, .aload_n 1, 1, 50), (50, .invokeinterface 8 1, 5, 55), (55, .if_icmp .ge 16, 3, 58), (58, .aload_n 1, 1, 59), (59, .iload_n 3, 1, 60), (60, .iload 5, 2, 62), (62, .iadd, 1, 63), (63, .invokeinterface 14 2, 5, 68), (68, .goto 4, 3, 71), (71, .iconst 0, 1, 72), (72, .ior, 1, 73), (73, .iastore, 1, 74), (74, .iinc 5 1, 3, 77), (77, .goto (-55), 3, 80), (80, .aload_n 0, 1, 81), (81, .aload 4, 2, 83), (83, .iconst 0, 1, 84), (84, .iaload, 1, 85), (85, .aload 4, 2, 87), (87, .iconst 1, 1, 88), (88, .iaload, 1, 89), (89, .aload 4, 2, 91), (91, .iconst 2, 1, 92), (92, .iaload, 1, 93), (93, .aload 4, 2, 95), (95, .iconst 3, 1, 96), (96, .iaload, 1, 97), (97, .aload 4, 2, 99), (99, .iconst 4, 1, 100), (100, .iaload, 1, 101), (101, .invokevirtual 18, 3, 104), (104, .istore_n 2, 1, 105), (105, .iinc 3 20, 3, 108), (108, .goto (-104), 3, 111), (111, .iload_n 2, 1, 112), (112, .aload_n 1, 1, 113), (113, .invokeinterface 8 1, 5, 118), (118, .if_icmp .lt 26, 3, 121), (121, .aload_n 0, 1, 122), (122, .aload_n 1, 1, 123), (123, .invokeinterface 8 1, 5, 128), (128, .invokevirtual 24, 3, 131), (131, .aload_n 1, 1, 132), (132, .invokeinterface 8 1, 5, 137), (137, .if_icmp .ne 7, 3, 140), (140, .iconst 1, 1, 141), (141, .goto 4, 3, 144), (144, .iconst 0, 1, 145), (145, .ireturn, 1, 146)]
theorem jd_Law_says : qm_D method_3_code jl_Law_says := qm_D_of (by decide +kernel)
noncomputable def kf_Law_says (Y : yY) (p2 : Option Nat) : yM Int :=
  yB (yP (0 : Int)) fun x1 =>
  yB (yP (0 : Int)) fun x2 =>
  yB (α := Int) (
    yLp (S := Int × Int) (α := Int) (fun s4 =>
      yB (yKr 22 p2 (kf_String_length Y p2)) fun x5 =>
      yB (yR2 s4.2 x5) fun _ =>
      if x5 ≤ s4.2 then
        yP (Sum.inr s4.1)
      else
        yB (yNa 1 (5 : Int)) fun x6 =>
        yB (yP x6) fun x7 =>
        yB (yP (0 : Int)) fun x8 =>
        yB (α := Unit) (
          yLp (S := Int) (α := Unit) (fun s10 =>
            yB (yR2 s10 (20 : Int)) fun _ =>
            if (20 : Int) ≤ s10 then
              yP (Sum.inr ())
            else
              yB (yDv s10 (4 : Int)) fun x11 =>
              yB (yDv s10 (4 : Int)) fun x12 =>
              yB (yLd 1 x7 x12) fun x13 =>
              yB (yKr 22 p2 (kf_String_length Y p2)) fun x14 =>
              yB (α := Int) (
                yB (yR2 (s4.2 + s10) x14) fun _ =>
                if x14 ≤ (s4.2 + s10) then
                  yP (0 : Int)
                else
                  yB (yKr 22 p2 (kf_String_charAt Y p2 (s4.2 + s10))) fun x16 =>
                  yP x16) fun s15 =>
              yB (ySt x7 x11 (ybOr (ybShl x13 (8 : Int)) s15)) fun _ =>
              yB (yP (s10 + 1)) fun x17 =>
              yP (Sum.inl x17)) x8) fun s9 =>
        yB (yLd 1 x7 (0 : Int)) fun x18 =>
        yB (yLd 1 x7 (1 : Int)) fun x19 =>
        yB (yLd 1 x7 (2 : Int)) fun x20 =>
        yB (yLd 1 x7 (3 : Int)) fun x21 =>
        yB (yLd 1 x7 (4 : Int)) fun x22 =>
        yB (yC ([x18, x19, x20, x21, x22] : List Int) (iz_Top_feed 0 x18 x19 x20 x21 x22)) fun x23 =>
        yB (yP x23) fun x24 =>
        yB (yP (s4.2 + 20)) fun x25 =>
        yP (Sum.inl (x24, x25))) (x1, x2)) fun s3 =>
  yB (yKr 22 p2 (kf_String_length Y p2)) fun x26 =>
  yB (yR2 s3 x26) fun _ =>
  if s3 < x26 then
    yB (yNw 1 (0 : Int)) fun _ =>
    yP (0 : Int)
  else
    yB (yKr 22 p2 (kf_String_length Y p2)) fun x27 =>
    yB (yC ([x27] : List Int) (iz_Top_end 0 x27)) fun x28 =>
    yB (yKr 22 p2 (kf_String_length Y p2)) fun x29 =>
    yB (yR2 x28 x29) fun _ =>
    if ¬ x28 = x29 then
      yB (yNw 1 (0 : Int)) fun _ =>
      yP (0 : Int)
    else
      yB (yNw 1 (1 : Int)) fun _ =>
      yP (1 : Int)
set_option maxRecDepth 20000 in
set_option maxHeartbeats 4000000 in
theorem kb_Law_says {X : qm_X} {Y : yY} {Fn : yFn} (hX : y_ok X Y Fn "ColumnsLevelledLaw" method_3_code 6 4 85 jl_Law_says) {r0 : Int} {w0 : yW} (hR : y_RI X Y Fn r0 w0 .boolean) (p2 : Option Nat) : yb X Y Fn (kf_Law_says Y p2) 0 [some (.ref (qx_ad X 0)), some (va_rf p2), none, none, none, none] [] (fun r w1 => r = r0 ∧ w1 = w0) := by
  unfold kf_Law_says
  refine y_iconst hX 0 0 rfl (by decide) ?_
  refine y_istore_n hX 1 (fun x1 => [some (.ref (qx_ad X 0)), some (va_rf p2), some (yi x1), none, none, none]) rfl (by decide) (fun _ => rfl) (fun x1 => ?_)
  refine y_iconst hX 2 0 rfl (by decide) ?_
  refine y_istore_n hX 3 (fun x2 => [some (.ref (qx_ad X 0)), some (va_rf p2), some (yi x1), some (yi x2), none, none]) rfl (by decide) (fun _ => rfl) (fun x2 => ?_)
  refine y_join (S := Int) 111 (fun s3 => [some (.ref (qx_ad X 0)), some (va_rf p2), some (yi s3), none, none, none]) (fun s3 => []) ?_ ?_
  ·
    refine y_loopw (S := Int × Int) ((x1, x2)) (fun s4 => [some (.ref (qx_ad X 0)), some (va_rf p2), some (yi s4.1), some (yi s4.2), none, none]) (qw_s (qw_s (qw_s (qw_s (qw_n (qw_n (qw_0))))))) (fun s4 => ?_)
    refine y_iload_n hX 4 rfl rfl ?_
    refine y_aload_n hX 5 rfl rfl ?_
    refine y_calI5 hX y_gRo (y_hrFo hX 6 (As := []) (a := p2) rfl ((yk_Z hX).2.2.2.2.2.2.1.1) ycw_Law_8 (fun p e => by cases e; exact km_String_length (yk_G hX) p) ⟨rfl, by decide, by decide⟩ rfl (Nat.le_trans (y_cs (yc_I _) y_cn) (by decide))) (fun x5 => ?_)
    refine y_icge hX 7 111 rfl (by decide) ?_ ?_
    ·
      exact y_exit (fun w h => yj_wk (ρ' := [some (.ref (qx_ad X 0)), some (va_rf p2), some (yi s4.1), none, none, none]) (qw_s (qw_s (qw_s (qw_n (qw_n (qw_n (qw_0))))))) h)
    ·
      refine y_iconst hX 8 5 rfl (by decide) ?_
      refine y_newa hX 9 (t := 1) rfl zw_int rfl (by decide) (fun x6 => ?_)
      refine y_astore hX 10 (fun x7 => [some (.ref (qx_ad X 0)), some (va_rf p2), some (yi s4.1), some (yi s4.2), some (va_rf x7), none]) rfl (by decide) (fun _ => rfl) (fun x7 => ?_)
      refine y_iconst hX 11 0 rfl (by decide) ?_
      refine y_istore hX 12 (fun x8 => [some (.ref (qx_ad X 0)), some (va_rf p2), some (yi s4.1), some (yi s4.2), some (va_rf x7), some (yi x8)]) rfl (by decide) (fun _ => rfl) (fun x8 => ?_)
      refine y_join (S := Unit) 80 (fun s9 => [some (.ref (qx_ad X 0)), some (va_rf p2), none, some (yi s4.2), some (va_rf x7), none]) (fun s9 => []) ?_ ?_
      ·
        refine y_loopw (S := Int) (x8) (fun s10 => [some (.ref (qx_ad X 0)), some (va_rf p2), none, some (yi s4.2), some (va_rf x7), some (yi s10)]) (qw_s (qw_s (qw_n (qw_s (qw_s (qw_s (qw_0))))))) (fun s10 => ?_)
        refine y_iload hX 13 rfl rfl ?_
        refine y_bipush hX 14 20 rfl (by decide) ?_
        refine y_icge hX 15 80 rfl (by decide) ?_ ?_
        ·
          exact y_exit (fun w h => yj_wk (ρ' := [some (.ref (qx_ad X 0)), some (va_rf p2), none, some (yi s4.2), some (va_rf x7), none]) (qw_s (qw_s (qw_n (qw_s (qw_s (qw_n (qw_0))))))) h)
        ·
          refine y_aload hX 16 rfl rfl ?_
          refine y_iload hX 17 rfl rfl ?_
          refine y_iconst hX 18 4 rfl (by decide) ?_
          refine y_idiv hX 19 rfl (fun x11 => ?_)
          refine y_aload hX 20 rfl rfl ?_
          refine y_iload hX 21 rfl rfl ?_
          refine y_iconst hX 22 4 rfl (by decide) ?_
          refine y_idiv hX 23 rfl (fun x12 => ?_)
          refine y_iald hX 24 rfl (fun x13 => ?_)
          refine y_bipush hX 25 8 rfl (by decide) ?_
          refine y_ishl hX 26 rfl ?_
          refine y_iload_n hX 27 rfl rfl ?_
          refine y_iload hX 28 rfl rfl ?_
          refine y_iadd hX 29 rfl ?_
          refine y_aload_n hX 30 rfl rfl ?_
          refine y_calI5 hX y_gRo (y_hrFo hX 31 (As := []) (a := p2) rfl ((yk_Z hX).2.2.2.2.2.2.1.1) ycw_Law_8 (fun p e => by cases e; exact km_String_length (yk_G hX) p) ⟨rfl, by decide, by decide⟩ rfl (Nat.le_trans (y_cs (yc_I _) (y_cs (yc_I _) (y_cs (yc_I _) (y_cs (yc_D _) y_cn)))) (by decide))) (fun x14 => ?_)
          refine y_join (S := Int) 72 (fun s15 => [some (.ref (qx_ad X 0)), some (va_rf p2), none, some (yi s4.2), some (va_rf x7), some (yi s10)]) (fun s15 => [yi s15, yi (ybShl x13 (8 : Int)), yi x11, va_rf x7]) ?_ ?_
          ·
            refine y_icge hX 32 71 rfl (by decide) ?_ ?_
            ·
              refine y_iconst hX 39 0 rfl (by decide) ?_
              exact y_exit (fun w h => yj_wk (ρ' := [some (.ref (qx_ad X 0)), some (va_rf p2), none, some (yi s4.2), some (va_rf x7), some (yi s10)]) (qw_s (qw_s (qw_n (qw_s (qw_s (qw_s (qw_0))))))) h)
            ·
              refine y_aload_n hX 33 rfl rfl ?_
              refine y_iload_n hX 34 rfl rfl ?_
              refine y_iload hX 35 rfl rfl ?_
              refine y_iadd hX 36 rfl ?_
              refine y_calI5 hX y_gRo (y_hrFo hX 37 (As := [yi (s4.2 + s10)]) (a := p2) rfl ((yk_Z hX).2.2.2.2.2.2.1.2) ycw_Law_14 (fun p e => by cases e; exact km_String_charAt (yk_G hX) p (s4.2 + s10)) ⟨rfl, by decide, by decide⟩ rfl (Nat.le_trans (y_cs (yc_I _) (y_cs (yc_I _) (y_cs (yc_D _) y_cn))) (by decide))) (fun x16 => ?_)
              exact y_exit (fun w h => yj_goto hX 38 rfl (by decide) (yj_wk (ρ' := [some (.ref (qx_ad X 0)), some (va_rf p2), none, some (yi s4.2), some (va_rf x7), some (yi s10)]) (qw_s (qw_s (qw_n (qw_s (qw_s (qw_s (qw_0))))))) h))
          · intro s15
            refine y_ior hX 40 rfl ?_
            refine y_iast hX 41 rfl ?_
            refine y_iinc hX 42 (fun x17 => [some (.ref (qx_ad X 0)), some (va_rf p2), none, some (yi s4.2), some (va_rf x7), some (yi x17)]) rfl (by decide) rfl (fun _ => rfl) (fun x17 => ?_)
            exact y_exit (fun w h => yj_goto hX 43 rfl (by decide) (yj_wk (ρ' := [some (.ref (qx_ad X 0)), some (va_rf p2), none, some (yi s4.2), some (va_rf x7), some (yi x17)]) (qw_s (qw_s (qw_n (qw_s (qw_s (qw_s (qw_0))))))) h))
      · intro s9
        refine y_rload_n hX 44 rfl rfl ?_
        refine y_aload hX 45 rfl rfl ?_
        refine y_iconst hX 46 0 rfl (by decide) ?_
        refine y_iald hX 47 rfl (fun x18 => ?_)
        refine y_aload hX 48 rfl rfl ?_
        refine y_iconst hX 49 1 rfl (by decide) ?_
        refine y_iald hX 50 rfl (fun x19 => ?_)
        refine y_aload hX 51 rfl rfl ?_
        refine y_iconst hX 52 2 rfl (by decide) ?_
        refine y_iald hX 53 rfl (fun x20 => ?_)
        refine y_aload hX 54 rfl rfl ?_
        refine y_iconst hX 55 3 rfl (by decide) ?_
        refine y_iald hX 56 rfl (fun x21 => ?_)
        refine y_aload hX 57 rfl rfl ?_
        refine y_iconst hX 58 4 rfl (by decide) ?_
        refine y_iald hX 59 rfl (fun x22 => ?_)
        refine y_objI (xs := ([x18, x19, x20, x21, x22] : List Int)) (m0 := jf_Top_feed 0 (Int32.ofInt x18) (Int32.ofInt x19) (Int32.ofInt x20) (Int32.ofInt x21) (Int32.ofInt x22)) hX 60 (a := 0) (ci := 8) (As := [yi x18, yi x19, yi x20, yi x21, yi x22]) rfl ycv_Law_18 (jm_Top_feed (qk_GI hX.1) 0 (Int32.ofInt x18) (Int32.ofInt x19) (Int32.ofInt x20) (Int32.ofInt x21) (Int32.ofInt x22) (by decide +kernel)) (fun h => is_Top_feed (yi_toInt (h _ (by simp))) (yi_toInt (h _ (by simp))) (yi_toInt (h _ (by simp))) (yi_toInt (h _ (by simp))) (yi_toInt (h _ (by simp)))) (by decide +kernel) ⟨rfl, rfl, rfl, by decide, by decide⟩ rfl (Nat.le_trans y_cn (by decide)) (fun x23 => ?_)
        refine y_istore_n hX 61 (fun x24 => [some (.ref (qx_ad X 0)), some (va_rf p2), some (yi x24), some (yi s4.2), some (va_rf x7), none]) rfl (by decide) (fun _ => rfl) (fun x24 => ?_)
        refine y_iinc hX 62 (fun x25 => [some (.ref (qx_ad X 0)), some (va_rf p2), some (yi x24), some (yi x25), some (va_rf x7), none]) rfl (by decide) rfl (fun _ => rfl) (fun x25 => ?_)
        exact y_exit (fun w h => yj_goto hX 63 rfl (by decide) (yj_wk (ρ' := [some (.ref (qx_ad X 0)), some (va_rf p2), some (yi x24), some (yi x25), none, none]) (qw_s (qw_s (qw_s (qw_s (qw_n (qw_n (qw_0))))))) h))
  · intro s3
    refine y_iload_n hX 64 rfl rfl ?_
    refine y_aload_n hX 65 rfl rfl ?_
    refine y_calI5 hX y_gRo (y_hrFo hX 66 (As := []) (a := p2) rfl ((yk_Z hX).2.2.2.2.2.2.1.1) ycw_Law_8 (fun p e => by cases e; exact km_String_length (yk_G hX) p) ⟨rfl, by decide, by decide⟩ rfl (Nat.le_trans (y_cs (yc_I _) y_cn) (by decide))) (fun x26 => ?_)
    refine y_iclt hX 67 144 rfl (by decide) ?_ ?_
    ·
      refine y_iconst hX 77 0 rfl (by decide) ?_
      exact y_zret hX 78 (by first | exact Or.inl rfl | exact Or.inr rfl) rfl hR (fun _ h => h)
    ·
      refine y_rload_n hX 68 rfl rfl ?_
      refine y_aload_n hX 69 rfl rfl ?_
      refine y_calI5 hX y_gRo (y_hrFo hX 70 (As := []) (a := p2) rfl ((yk_Z hX).2.2.2.2.2.2.1.1) ycw_Law_8 (fun p e => by cases e; exact km_String_length (yk_G hX) p) ⟨rfl, by decide, by decide⟩ rfl (Nat.le_trans (y_cs (yc_O _) y_cn) (by decide))) (fun x27 => ?_)
      refine y_objI (xs := ([x27] : List Int)) (m0 := jf_Top_end 0 (Int32.ofInt x27)) hX 71 (a := 0) (ci := 8) (As := [yi x27]) rfl ycv_Law_24 (jm_Top_end (qk_GI hX.1) 0 (Int32.ofInt x27) (by decide +kernel)) (fun h => is_Top_end (yi_toInt (h _ (by simp)))) (by decide +kernel) ⟨rfl, rfl, rfl, by decide, by decide⟩ rfl (Nat.le_trans y_cn (by decide)) (fun x28 => ?_)
      refine y_aload_n hX 72 rfl rfl ?_
      refine y_calI5 hX y_gRo (y_hrFo hX 73 (As := []) (a := p2) rfl ((yk_Z hX).2.2.2.2.2.2.1.1) ycw_Law_8 (fun p e => by cases e; exact km_String_length (yk_G hX) p) ⟨rfl, by decide, by decide⟩ rfl (Nat.le_trans (y_cs (yc_I _) y_cn) (by decide))) (fun x29 => ?_)
      refine y_icne hX 74 144 rfl (by decide) ?_ ?_
      ·
        refine y_iconst hX 77 0 rfl (by decide) ?_
        exact y_zret hX 78 (by first | exact Or.inl rfl | exact Or.inr rfl) rfl hR (fun _ h => h)
      ·
        refine y_iconst hX 75 1 rfl (by decide) ?_
        refine y_goto hX 76 (tgt := 145) rfl (by decide) ?_
        exact y_zret hX 78 (by first | exact Or.inl rfl | exact Or.inr rfl) rfl hR (fun _ h => h)
theorem km_Law_says {l : Launch} {G : qm_G} {Y : yY} (hG : yGG G Y) (p2 : Option Nat) : yMM (yQi G Y) l G Y jy_Law_says method_3_code 6 (some .boolean) 4 85 [.ref (G.1 0), va_rf p2] (kf_Law_says Y p2) :=
  y_met (by decide +kernel) jd_Law_says (fun v hv => by simp only [List.mem_cons, List.not_mem_nil, or_false] at hv; rcases hv with rfl | rfl <;> first | exact yc_D _ | rfl) (by exact Nat.le_of_ble_eq_true rfl) hG (fun X Fn r0 w0 hl hg hn hX hR => by subst hl; subst hg; exact kb_Law_says hX hR p2)
