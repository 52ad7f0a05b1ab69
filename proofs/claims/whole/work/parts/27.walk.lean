def jl_Top_loose : List qm_I := [(0, .iload_n 1, 1, 1), (1, .ifCond .lt 8, 3, 4), (4, .iload_n 1, 1, 5), (5, .iconst 2, 1, 6), (6, .if_icmp .le 5, 3, 9), (9, .iconst (-1), 1, 10), (10, .ireturn, 1, 11), (11, .aload_n 0, 1, 12), (12, .invokevirtual 206, 3, 15), (15, .astore_n 2, 1, 16), (16, .aload_n 2, 1, 17), (17, .getfield 240, 3, 20), (20, .iconst (-1), 1, 21), (21, .if_icmp .eq 8, 3, 24), (24, .aload_n 2, 1, 25), (25, .invokevirtual 209, 3, 28), (28, .ireturn, 1, 29), (29, .iconst 0, 1, 30), (30, .istore_n 3, 1, 31), (31, .iconst 0, 1, 32), (32, .istore 4, 2, 34), (34, .bipush (-2), 2, 36), (36, .istore 5, 2, 38), (38, .iconst 0, 1, 39), (39, .istore 6, 2, 41), (41, .iload 6, 2, 43), (43, .aload_n 2, 1, 44), (44, .getfield 212, 3, 47), (47, .if_icmp .ge 53, 3, 50), (50, .aload_n 2, 1, 51), (51, .iload 6, 2, 53), (53, .bipush 10, 2, 55), (55, .invokevirtual 215, 3, 58), (58, .aload_n 2, 1, 59), (59, .iload 6, 2, 61), (61, .invokevirtual 243, 3, 64), (64, .isub, 1, 65), (65, .istore 7, 2, 67), (67, .iload_n 3, 1, 68), (68, .iload 7, 2, 70), (70, .iadd, 1, 71), (71, .istore_n 3, 1, 72), (72, .iload 5, 2, 74), (74, .bipush (-2), 2, 76), (76, .if_icmp .eq 10, 3, 79), (79, .iload 7, 2, 81), (81, .iload 4, 2, 83), (83, .if_icmp .le 11, 3, 86), (86, .iload 7, 2, 88), (88, .istore 4, 2, 90), (90, .iload 6, 2, 92), (92, .istore 5, 2, 94), (94, .iinc 6 1, 3, 97), (97, .goto (-56), 3, 100), (100, .iload_n 1, 1, 101), (101, .lookupswitch 32 #[(0, 27), (1, 29)], 27, 128), (128, .iload_n 3, 1, 129), (129, .ireturn, 1, 130), (130, .iload 4, 2, 132), (132, .ireturn, 1, 133), (133, .iload 5, 2, 135), (135, .ireturn, 1, 136)]
theorem jd_Top_loose : qm_D prog_1_method_23_code jl_Top_loose := qm_D_of (by decide +kernel)
noncomputable def jf_Top_loose (this : Nat) (p1 : Int32) : qm_M Int32 :=
  if p1 < 0 then
    mP (-1)
  else
    if p1 ≤ 2 then
      mB (mK 13 (jf_Top_pouredNow this)) fun r1 =>
      mB (mGt r1 9) fun x2 =>
      if x2 = (-1) then
        mB (α := Int32 × Int32 × Int32) (
          mW (S := Int32 × Int32 × Int32 × Int32) (α := Int32 × Int32 × Int32) (fun s4 =>
            mB (mGt r1 4) fun x5 =>
            if x5 ≤ s4.2.2.2 then
              mP (Sum.inr (s4.1, s4.2.1, s4.2.2.1))
            else
              mB (jf_Press_cell r1 s4.2.2.2 10) fun x6 =>
              mB (jf_Press_used r1 s4.2.2.2) fun x7 =>
              mB (mP (x6 - x7)) fun x8 =>
              mB (mP (s4.1 + x8)) fun x9 =>
              mB (α := Int32 × Int32) (
                mB (α := (Unit ⊕ (Int32 × Int32))) (
                  if s4.2.2.1 = (-2) then
                    mP (Sum.inl ())
                  else
                    if x8 ≤ s4.2.1 then
                      mP (Sum.inr (s4.2.1, s4.2.2.1))
                    else
                      mP (Sum.inl ())) (Sum.elim (fun s11 =>
                  mP (x8, s4.2.2.2)) mP)) fun s10 =>
              mB (mP (s4.2.2.2 + 1)) fun x12 =>
              mP (Sum.inl (x9, s10.1, s10.2, x12))) (0, 0, (-2), 0)) fun s3 =>
        if p1 = 0 then
          mP s3.1
        else
        if p1 = 1 then
          mP s3.2.1
        else
        mP s3.2.2
      else
        mB (jf_Press_answer r1) fun x13 =>
        mP x13
    else
      mP (-1)
set_option maxRecDepth 20000 in
set_option maxHeartbeats 4000000 in
theorem jb_Top_loose {X : qm_X} (hX : qm_ok X qr_Top prog_1_method_23_code 8 7 175 jl_Top_loose) {r0 : Int32} {σ0 : qm_Mem} (hR : qm_RI X r0 σ0 .int) (this : Nat) (p1 : Int32) (hthis : (qm_kd this).1 = 18) : qm_B X (jf_Top_loose this p1) 0 [some (.ref (qx_ad X this)), some (.int p1), none, none, none, none, none, none] [] (fun r σ1 => r = r0 ∧ σ1 = σ0) := by
  unfold jf_Top_loose
  refine qb_iload_n hX 0 rfl rfl ?_
  refine qb_iflt hX 1 9 rfl (by decide) ?_ ?_
  ·
    refine qb_iconst hX 5 (-1) rfl (by decide) ?_
    exact qb_iret hX 6 rfl hR (fun _ h => h)
  ·
    refine qb_iload_n hX 2 rfl rfl ?_
    refine qb_iconst hX 3 2 rfl (by decide) ?_
    refine qb_icle hX 4 11 rfl (by decide) ?_ ?_
    ·
      refine qb_aload_n hX 7 rfl rfl ?_
      refine qb_callR hX 8 rfl cv_Top_206 (jm_Top_pouredNow (qk_GI hX) this  hthis ) (ci := 8) hthis ⟨rfl, rfl, rfl, by decide, by decide⟩ rfl (by exact Nat.le_of_ble_eq_true rfl) (fun r1 hr1 => ?_)
      refine qb_astore_n hX 9 ([some (.ref (qx_ad X this)), some (.int p1), some (.ref (qx_ad X r1)), none, none, none, none, none]) rfl (by decide) rfl ?_
      refine qb_aload_n hX 10 rfl rfl ?_
      refine qb_get hX 11 rfl fl_Top_240 hr1 rfl (fun x2 => ?_)
      refine qb_iconst hX 12 (-1) rfl (by decide) ?_
      refine qb_iceq hX 13 29 rfl (by decide) ?_ ?_
      ·
        refine qb_iconst hX 17 0 rfl (by decide) ?_
        refine qb_istore_n hX 18 ([some (.ref (qx_ad X this)), some (.int p1), some (.ref (qx_ad X r1)), some (.int 0), none, none, none, none]) rfl (by decide) rfl ?_
        refine qb_iconst hX 19 0 rfl (by decide) ?_
        refine qb_istore hX 20 ([some (.ref (qx_ad X this)), some (.int p1), some (.ref (qx_ad X r1)), some (.int 0), some (.int 0), none, none, none]) rfl (by decide) rfl ?_
        refine qb_bipush hX 21 (-2) rfl (by decide) ?_
        refine qb_istore hX 22 ([some (.ref (qx_ad X this)), some (.int p1), some (.ref (qx_ad X r1)), some (.int 0), some (.int 0), some (.int (-2)), none, none]) rfl (by decide) rfl ?_
        refine qb_iconst hX 23 0 rfl (by decide) ?_
        refine qb_istore hX 24 ([some (.ref (qx_ad X this)), some (.int p1), some (.ref (qx_ad X r1)), some (.int 0), some (.int 0), some (.int (-2)), some (.int 0), none]) rfl (by decide) rfl ?_
        refine qb_join 100 (fun s3 => [none, some (.int p1), none, some (.int s3.1), some (.int s3.2.1), some (.int s3.2.2), none, none]) (fun s3 => []) ?_ ?_
        ·
          refine qb_loopw ((0, 0, (-2), 0)) (fun s4 => [none, some (.int p1), some (.ref (qx_ad X r1)), some (.int s4.1), some (.int s4.2.1), some (.int s4.2.2.1), some (.int s4.2.2.2), none]) (qw_n (qw_s (qw_s (qw_s (qw_s (qw_s (qw_s (qw_n (qw_0))))))))) (fun s4 => ?_)
          refine qb_iload hX 25 rfl rfl ?_
          refine qb_aload_n hX 26 rfl rfl ?_
          refine qb_get hX 27 rfl fl_Top_212 hr1 rfl (fun x5 => ?_)
          refine qb_icge hX 28 100 rfl (by decide) ?_ ?_
          ·
            exact qb_exit (fun σ h => qj_wk (ρ' := [none, some (.int p1), none, some (.int s4.1), some (.int s4.2.1), some (.int s4.2.2.1), none, none]) (qw_n (qw_s (qw_n (qw_s (qw_s (qw_s (qw_n (qw_n (qw_0))))))))) h)
          ·
            refine qb_aload_n hX 29 rfl rfl ?_
            refine qb_iload hX 30 rfl rfl ?_
            refine qb_bipush hX 31 10 rfl (by decide) ?_
            refine qb_callI hX 32 rfl cv_Top_215 (jm_Press_cell (qk_GI hX) r1 s4.2.2.2 10 hr1 ) (ci := 3) hr1 ⟨rfl, rfl, rfl, by decide, by decide⟩ rfl (by exact Nat.le_of_ble_eq_true rfl) (fun x6 => ?_)
            refine qb_aload_n hX 33 rfl rfl ?_
            refine qb_iload hX 34 rfl rfl ?_
            refine qb_callI hX 35 rfl cv_Top_243 (jm_Press_used (qk_GI hX) r1 s4.2.2.2 hr1 ) (ci := 3) hr1 ⟨rfl, rfl, rfl, by decide, by decide⟩ rfl (by exact Nat.le_of_ble_eq_true rfl) (fun x7 => ?_)
            refine qb_isub hX 36 rfl ?_
            refine qb_istoreL hX 37 (fun x8 => [none, some (.int p1), some (.ref (qx_ad X r1)), some (.int s4.1), some (.int s4.2.1), some (.int s4.2.2.1), some (.int s4.2.2.2), some (.int x8)]) rfl (by decide) (fun _ => rfl) (fun x8 => ?_)
            refine qb_iload_n hX 38 rfl rfl ?_
            refine qb_iload hX 39 rfl rfl ?_
            refine qb_iadd hX 40 rfl ?_
            refine qb_istore_nL hX 41 (fun x9 => [none, some (.int p1), some (.ref (qx_ad X r1)), some (.int x9), some (.int s4.2.1), some (.int s4.2.2.1), some (.int s4.2.2.2), some (.int x8)]) rfl (by decide) (fun _ => rfl) (fun x9 => ?_)
            refine qb_iload hX 42 rfl rfl ?_
            refine qb_bipush hX 43 (-2) rfl (by decide) ?_
            refine qb_join 94 (fun s10 => [none, some (.int p1), some (.ref (qx_ad X r1)), some (.int x9), some (.int s10.1), some (.int s10.2), some (.int s4.2.2.2), none]) (fun s10 => []) ?_ ?_
            ·
              refine qb_join2 86 (fun s11 => [none, some (.int p1), some (.ref (qx_ad X r1)), some (.int x9), none, none, some (.int s4.2.2.2), some (.int x8)]) (fun s11 => []) ?_ ?_
              ·
                refine qb_iceq hX 44 86 rfl (by decide) ?_ ?_
                ·
                  exact qb_exit (fun σ h => qj_wk (ρ' := [none, some (.int p1), some (.ref (qx_ad X r1)), some (.int x9), none, none, some (.int s4.2.2.2), some (.int x8)]) (qw_n (qw_s (qw_s (qw_s (qw_n (qw_n (qw_s (qw_s (qw_0))))))))) h)
                ·
                  refine qb_iload hX 45 rfl rfl ?_
                  refine qb_iload hX 46 rfl rfl ?_
                  refine qb_icle hX 47 94 rfl (by decide) ?_ ?_
                  ·
                    exact qb_exit (fun σ h => qj_wk (ρ' := [none, some (.int p1), some (.ref (qx_ad X r1)), some (.int x9), some (.int s4.2.1), some (.int s4.2.2.1), some (.int s4.2.2.2), none]) (qw_n (qw_s (qw_s (qw_s (qw_s (qw_s (qw_s (qw_n (qw_0))))))))) h)
                  ·
                    exact qb_exit (fun σ h => qj_wk (ρ' := [none, some (.int p1), some (.ref (qx_ad X r1)), some (.int x9), none, none, some (.int s4.2.2.2), some (.int x8)]) (qw_n (qw_s (qw_s (qw_s (qw_n (qw_n (qw_s (qw_s (qw_0))))))))) h)
              · intro s11
                refine qb_iload hX 48 rfl rfl ?_
                refine qb_istore hX 49 ([none, some (.int p1), some (.ref (qx_ad X r1)), some (.int x9), some (.int x8), none, some (.int s4.2.2.2), some (.int x8)]) rfl (by decide) rfl ?_
                refine qb_iload hX 50 rfl rfl ?_
                refine qb_istore hX 51 ([none, some (.int p1), some (.ref (qx_ad X r1)), some (.int x9), some (.int x8), some (.int s4.2.2.2), some (.int s4.2.2.2), some (.int x8)]) rfl (by decide) rfl ?_
                exact qb_exit (fun σ h => qj_wk (ρ' := [none, some (.int p1), some (.ref (qx_ad X r1)), some (.int x9), some (.int x8), some (.int s4.2.2.2), some (.int s4.2.2.2), none]) (qw_n (qw_s (qw_s (qw_s (qw_s (qw_s (qw_s (qw_n (qw_0))))))))) h)
            · intro s10
              refine qb_iinc hX 52 1 (fun x12 => [none, some (.int p1), some (.ref (qx_ad X r1)), some (.int x9), some (.int s10.1), some (.int s10.2), some (.int x12), none]) rfl (by decide) (by decide) rfl (fun _ => rfl) (fun x12 => ?_)
              exact qb_exit (fun σ h => qj_goto hX 53 rfl (by decide) (qj_wk (ρ' := [none, some (.int p1), some (.ref (qx_ad X r1)), some (.int x9), some (.int s10.1), some (.int s10.2), some (.int x12), none]) (qw_n (qw_s (qw_s (qw_s (qw_s (qw_s (qw_s (qw_n (qw_0))))))))) h))
        · intro s3
          refine qb_iload_n hX 54 rfl rfl ?_
          refine qb_swc 0 ?_ (fun h0 => ?_)
          ·
            refine qb_lsw hX 55 (off := 27) 128 rfl (by decide) (by decide) (by decide) ?_
            refine qb_iload_n hX 56 rfl rfl ?_
            exact qb_iret hX 57 rfl hR (fun _ h => h)
          refine qb_swc 1 ?_ (fun h1 => ?_)
          ·
            refine qb_lsw hX 55 (off := 29) 130 rfl (by decide) (by decide) (by decide) ?_
            refine qb_iload hX 58 rfl rfl ?_
            exact qb_iret hX 59 rfl hR (fun _ h => h)
          refine qb_lsw hX 55 (off := 32) 133 rfl (by decide) (by rw [lv_osw h0 (by decide)]; rw [lv_osw h1 (by decide)]; try rfl) (by decide) ?_
          refine qb_iload hX 60 rfl rfl ?_
          exact qb_iret hX 61 rfl hR (fun _ h => h)
      ·
        refine qb_aload_n hX 14 rfl rfl ?_
        refine qb_callI hX 15 rfl cv_Top_209 (jm_Press_answer (qk_GI hX) r1  hr1 ) (ci := 3) hr1 ⟨rfl, rfl, rfl, by decide, by decide⟩ rfl (by exact Nat.le_of_ble_eq_true rfl) (fun x13 => ?_)
        exact qb_iret hX 16 rfl hR (fun _ h => h)
    ·
      refine qb_iconst hX 5 (-1) rfl (by decide) ?_
      exact qb_iret hX 6 rfl hR (fun _ h => h)
theorem jm_Top_loose {l : Launch} {G : qm_G} (hG : qm_GI G) (this : Nat) (p1 : Int32) (hthis : (qm_kd this).1 = 18) : qm_MI l G jy_Top_loose prog_1_method_23_code 8 (some .int) 7 175 [.ref (G.1 this), .int p1] (jf_Top_loose this p1) :=
  qm_metI (by decide +kernel) jd_Top_loose (fun v hv => by simp only [List.mem_cons, List.not_mem_nil, or_false] at hv; rcases hv with rfl | rfl <;> rfl) (by exact Nat.le_of_ble_eq_true rfl) hG rfl (fun X hl hg hX r0 σ0 hR => by subst hl; subst hg; exact jb_Top_loose hX hR this p1 hthis)
def jl_Top_page : List qm_I := [(0, .aload_n 0, 1, 1), (1, .invokevirtual 206, 3, 4), (4, .astore_n 3, 1, 5), (5, .iload_n 1, 1, 6), (6, .ifCond .lt 21, 3, 9), (9, .iload_n 1, 1, 10), (10, .aload_n 3, 1, 11), (11, .getfield 246, 3, 14), (14, .if_icmp .gt 13, 3, 17), (17, .aload_n 3, 1, 18), (18, .getfield 144, 3, 21), (21, .getfield 182, 3, 24), (24, .ifCond .ne 5, 3, 27), (27, .iconst (-1), 1, 28), (28, .ireturn, 1, 29), (29, .iload_n 2, 1, 30), (30, .tableswitch 64 0 4 #[34, 40, 46, 52, 58], 34, 64), (64, .aload_n 3, 1, 65), (65, .iload_n 1, 1, 66), (66, .invokevirtual 249, 3, 69), (69, .ireturn, 1, 70), (70, .aload_n 3, 1, 71), (71, .iload_n 1, 1, 72), (72, .invokevirtual 252, 3, 75), (75, .ireturn, 1, 76), (76, .aload_n 3, 1, 77), (77, .iload_n 1, 1, 78), (78, .invokevirtual 255, 3, 81), (81, .ireturn, 1, 82), (82, .aload_n 3, 1, 83), (83, .iload_n 1, 1, 84), (84, .invokevirtual 258, 3, 87), (87, .ireturn, 1, 88), (88, .aload_n 3, 1, 89), (89, .iload_n 1, 1, 90), (90, .invokevirtual 261, 3, 93), (93, .ireturn, 1, 94), (94, .iconst (-1), 1, 95), (95, .ireturn, 1, 96)]
theorem jd_Top_page : qm_D prog_1_method_24_code jl_Top_page := qm_D_of (by decide +kernel)
noncomputable def jf_Top_page (this : Nat) (p1 : Int32) (p2 : Int32) : qm_M Int32 :=
  mB (mK 13 (jf_Top_pouredNow this)) fun r1 =>
  if p1 < 0 then
    mP (-1)
  else
    mB (mGt r1 5) fun x2 =>
    if x2 < p1 then
      mP (-1)
    else
      mB (mGt (qm_rf r1 1) 1) fun x3 =>
      if ¬ x3 = 0 then
        if p2 = 0 then
          mB (jf_Press_columnsOn r1 p1) fun x4 =>
          mP x4
        else
        if p2 = 1 then
          mB (jf_Press_piecesOn r1 p1) fun x5 =>
          mP x5
        else
        if p2 = 2 then
          mB (jf_Press_spansOn r1 p1) fun x6 =>
          mP x6
        else
        if p2 = 3 then
          mB (jf_Press_noteLinesOn r1 p1) fun x7 =>
          mP x7
        else
        if p2 = 4 then
          mB (jf_Press_sectionsOn r1 p1) fun x8 =>
          mP x8
        else
        mP (-1)
      else
        mP (-1)
set_option maxRecDepth 20000 in
set_option maxHeartbeats 4000000 in
theorem jb_Top_page {X : qm_X} (hX : qm_ok X qr_Top prog_1_method_24_code 4 7 175 jl_Top_page) {r0 : Int32} {σ0 : qm_Mem} (hR : qm_RI X r0 σ0 .int) (this : Nat) (p1 : Int32) (p2 : Int32) (hthis : (qm_kd this).1 = 18) : qm_B X (jf_Top_page this p1 p2) 0 [some (.ref (qx_ad X this)), some (.int p1), some (.int p2), none] [] (fun r σ1 => r = r0 ∧ σ1 = σ0) := by
  unfold jf_Top_page
  refine qb_aload_n hX 0 rfl rfl ?_
  refine qb_callR hX 1 rfl cv_Top_206 (jm_Top_pouredNow (qk_GI hX) this  hthis ) (ci := 8) hthis ⟨rfl, rfl, rfl, by decide, by decide⟩ rfl (by exact Nat.le_of_ble_eq_true rfl) (fun r1 hr1 => ?_)
  refine qb_astore_n hX 2 ([some (.ref (qx_ad X this)), some (.int p1), some (.int p2), some (.ref (qx_ad X r1))]) rfl (by decide) rfl ?_
  refine qb_iload_n hX 3 rfl rfl ?_
  refine qb_iflt hX 4 27 rfl (by decide) ?_ ?_
  ·
    refine qb_iconst hX 13 (-1) rfl (by decide) ?_
    exact qb_iret hX 14 rfl hR (fun _ h => h)
  ·
    refine qb_iload_n hX 5 rfl rfl ?_
    refine qb_aload_n hX 6 rfl rfl ?_
    refine qb_get hX 7 rfl fl_Top_246 hr1 rfl (fun x2 => ?_)
    refine qb_icgt hX 8 27 rfl (by decide) ?_ ?_
    ·
      refine qb_iconst hX 13 (-1) rfl (by decide) ?_
      exact qb_iret hX 14 rfl hR (fun _ h => h)
    ·
      refine qb_aload_n hX 9 rfl rfl ?_
      refine qb_getR hX 10 rfl fl_Top_144 hr1 rfl ?_
      refine qb_get hX 11 rfl fl_Top_182 (kf_Press_1 hr1) rfl (fun x3 => ?_)
      refine qb_ifne hX 12 29 rfl (by decide) ?_ ?_
      ·
        refine qb_iload_n hX 15 rfl rfl ?_
        refine qb_swc 0 ?_ (fun h0 => ?_)
        ·
          refine qb_tin hX 16 64 rfl (by decide) (by decide) rfl (by decide) ?_
          refine qb_aload_n hX 17 rfl rfl ?_
          refine qb_iload_n hX 18 rfl rfl ?_
          refine qb_callI hX 19 rfl cv_Top_249 (jm_Press_columnsOn (qk_GI hX) r1 p1 hr1 ) (ci := 3) hr1 ⟨rfl, rfl, rfl, by decide, by decide⟩ rfl (by exact Nat.le_of_ble_eq_true rfl) (fun x4 => ?_)
          exact qb_iret hX 20 rfl hR (fun _ h => h)
        refine qb_swc 1 ?_ (fun h1 => ?_)
        ·
          refine qb_tin hX 16 70 rfl (by decide) (by decide) rfl (by decide) ?_
          refine qb_aload_n hX 21 rfl rfl ?_
          refine qb_iload_n hX 22 rfl rfl ?_
          refine qb_callI hX 23 rfl cv_Top_252 (jm_Press_piecesOn (qk_GI hX) r1 p1 hr1 ) (ci := 3) hr1 ⟨rfl, rfl, rfl, by decide, by decide⟩ rfl (by exact Nat.le_of_ble_eq_true rfl) (fun x5 => ?_)
          exact qb_iret hX 24 rfl hR (fun _ h => h)
        refine qb_swc 2 ?_ (fun h2 => ?_)
        ·
          refine qb_tin hX 16 76 rfl (by decide) (by decide) rfl (by decide) ?_
          refine qb_aload_n hX 25 rfl rfl ?_
          refine qb_iload_n hX 26 rfl rfl ?_
          refine qb_callI hX 27 rfl cv_Top_255 (jm_Press_spansOn (qk_GI hX) r1 p1 hr1 ) (ci := 3) hr1 ⟨rfl, rfl, rfl, by decide, by decide⟩ rfl (by exact Nat.le_of_ble_eq_true rfl) (fun x6 => ?_)
          exact qb_iret hX 28 rfl hR (fun _ h => h)
        refine qb_swc 3 ?_ (fun h3 => ?_)
        ·
          refine qb_tin hX 16 82 rfl (by decide) (by decide) rfl (by decide) ?_
          refine qb_aload_n hX 29 rfl rfl ?_
          refine qb_iload_n hX 30 rfl rfl ?_
          refine qb_callI hX 31 rfl cv_Top_258 (jm_Press_noteLinesOn (qk_GI hX) r1 p1 hr1 ) (ci := 3) hr1 ⟨rfl, rfl, rfl, by decide, by decide⟩ rfl (by exact Nat.le_of_ble_eq_true rfl) (fun x7 => ?_)
          exact qb_iret hX 32 rfl hR (fun _ h => h)
        refine qb_swc 4 ?_ (fun h4 => ?_)
        ·
          refine qb_tin hX 16 88 rfl (by decide) (by decide) rfl (by decide) ?_
          refine qb_aload_n hX 33 rfl rfl ?_
          refine qb_iload_n hX 34 rfl rfl ?_
          refine qb_callI hX 35 rfl cv_Top_261 (jm_Press_sectionsOn (qk_GI hX) r1 p1 hr1 ) (ci := 3) hr1 ⟨rfl, rfl, rfl, by decide, by decide⟩ rfl (by exact Nat.le_of_ble_eq_true rfl) (fun x8 => ?_)
          exact qb_iret hX 36 rfl hR (fun _ h => h)
        refine qb_tout hX 16 94 rfl (by have g0 := lv_neT (a := 0) h0 (by decide); have g1 := lv_neT (a := 1) h1 (by decide); have g2 := lv_neT (a := 2) h2 (by decide); have g3 := lv_neT (a := 3) h3 (by decide); have g4 := lv_neT (a := 4) h4 (by decide); omega) (by decide) ?_
        refine qb_iconst hX 37 (-1) rfl (by decide) ?_
        exact qb_iret hX 38 rfl hR (fun _ h => h)
      ·
        refine qb_iconst hX 13 (-1) rfl (by decide) ?_
        exact qb_iret hX 14 rfl hR (fun _ h => h)
theorem jm_Top_page {l : Launch} {G : qm_G} (hG : qm_GI G) (this : Nat) (p1 : Int32) (p2 : Int32) (hthis : (qm_kd this).1 = 18) : qm_MI l G jy_Top_page prog_1_method_24_code 4 (some .int) 7 175 [.ref (G.1 this), .int p1, .int p2] (jf_Top_page this p1 p2) :=
  qm_metI (by decide +kernel) jd_Top_page (fun v hv => by simp only [List.mem_cons, List.not_mem_nil, or_false] at hv; rcases hv with rfl | rfl | rfl <;> rfl) (by exact Nat.le_of_ble_eq_true rfl) hG rfl (fun X hl hg hX r0 σ0 hR => by subst hl; subst hg; exact jb_Top_page hX hR this p1 p2 hthis)
def jl_Top_asks : List qm_I := [(0, .iload_n 1, 1, 1), (1, .ifCond .lt 32, 3, 4), (4, .iload_n 1, 1, 5), (5, .aload_n 0, 1, 6), (6, .invokevirtual 140, 3, 9), (9, .getfield 144, 3, 12), (12, .getfield 182, 3, 15), (15, .if_icmp .ge 18, 3, 18), (18, .iload_n 2, 1, 19), (19, .ifCond .lt 14, 3, 22), (22, .iload_n 2, 1, 23), (23, .sipush 2000, 3, 26), (26, .if_icmp .gt 7, 3, 29), (29, .iconst 1, 1, 30), (30, .goto 4, 3, 33), (33, .iconst 0, 1, 34), (34, .ireturn, 1, 35)]
theorem jd_Top_asks : qm_D prog_1_method_41_code jl_Top_asks := qm_D_of (by decide +kernel)
noncomputable def jf_Top_asks (this : Nat) (p1 : Int32) (p2 : Int32) : qm_M Int32 :=
  if p1 < 0 then
    mP 0
  else
    mB (mK 13 (jf_Top_laidOut this)) fun r1 =>
    mB (mGt (qm_rf r1 1) 1) fun x2 =>
    if x2 ≤ p1 then
      mP 0
    else
      if p2 < 0 then
        mP 0
      else
        if 2000 < p2 then
          mP 0
        else
          mP 1
set_option maxRecDepth 20000 in
set_option maxHeartbeats 4000000 in
theorem jb_Top_asks {X : qm_X} (hX : qm_ok X qr_Top prog_1_method_41_code 3 6 134 jl_Top_asks) {r0 : Int32} {σ0 : qm_Mem} (hR : qm_RI X r0 σ0 .boolean) (this : Nat) (p1 : Int32) (p2 : Int32) (hthis : (qm_kd this).1 = 18) : qm_B X (jf_Top_asks this p1 p2) 0 [some (.ref (qx_ad X this)), some (.int p1), some (.int p2)] [] (fun r σ1 => r = r0 ∧ σ1 = σ0) := by
  unfold jf_Top_asks
  refine qb_iload_n hX 0 rfl rfl ?_
  refine qb_iflt hX 1 33 rfl (by decide) ?_ ?_
  ·
    refine qb_iconst hX 15 0 rfl (by decide) ?_
    exact qb_zret1 hX 16 rfl hR (by decide) (fun _ h => h)
  ·
    refine qb_iload_n hX 2 rfl rfl ?_
    refine qb_aload_n hX 3 rfl rfl ?_
    refine qb_callR hX 4 rfl cv_Top_140 (jm_Top_laidOut (qk_GI hX) this  hthis ) (ci := 8) hthis ⟨rfl, rfl, rfl, by decide, by decide⟩ rfl (by exact Nat.le_of_ble_eq_true rfl) (fun r1 hr1 => ?_)
    refine qb_getR hX 5 rfl fl_Top_144 hr1 rfl ?_
    refine qb_get hX 6 rfl fl_Top_182 (kf_Press_1 hr1) rfl (fun x2 => ?_)
    refine qb_icge hX 7 33 rfl (by decide) ?_ ?_
    ·
      refine qb_iconst hX 15 0 rfl (by decide) ?_
      exact qb_zret1 hX 16 rfl hR (by decide) (fun _ h => h)
    ·
      refine qb_iload_n hX 8 rfl rfl ?_
      refine qb_iflt hX 9 33 rfl (by decide) ?_ ?_
      ·
        refine qb_iconst hX 15 0 rfl (by decide) ?_
        exact qb_zret1 hX 16 rfl hR (by decide) (fun _ h => h)
      ·
        refine qb_iload_n hX 10 rfl rfl ?_
        refine qb_sipush hX 11 2000 rfl (by decide) ?_
        refine qb_icgt hX 12 33 rfl (by decide) ?_ ?_
        ·
          refine qb_iconst hX 15 0 rfl (by decide) ?_
          exact qb_zret1 hX 16 rfl hR (by decide) (fun _ h => h)
        ·
          refine qb_iconst hX 13 1 rfl (by decide) ?_
          refine qb_goto hX 14 (tgt := 34) rfl (by decide) ?_
          exact qb_zret1 hX 16 rfl hR (by decide) (fun _ h => h)
theorem jm_Top_asks {l : Launch} {G : qm_G} (hG : qm_GI G) (this : Nat) (p1 : Int32) (p2 : Int32) (hthis : (qm_kd this).1 = 18) : qm_MI l G jy_Top_asks prog_1_method_41_code 3 (some .boolean) 6 134 [.ref (G.1 this), .int p1, .int p2] (jf_Top_asks this p1 p2) :=
  qm_metI (by decide +kernel) jd_Top_asks (fun v hv => by simp only [List.mem_cons, List.not_mem_nil, or_false] at hv; rcases hv with rfl | rfl | rfl <;> rfl) (by exact Nat.le_of_ble_eq_true rfl) hG rfl (fun X hl hg hX r0 σ0 hR => by subst hl; subst hg; exact jb_Top_asks hX hR this p1 p2 hthis)
def jl_Top_fits : List qm_I := [(0, .aload_n 0, 1, 1), (1, .iload_n 1, 1, 2), (2, .iload_n 2, 1, 3), (3, .invokevirtual 264, 3, 6), (6, .ifCond .ne 5, 3, 9), (9, .iconst (-1), 1, 10), (10, .ireturn, 1, 11), (11, .aload_n 0, 1, 12), (12, .getfield 48, 3, 15), (15, .getfield 267, 3, 18), (18, .iload_n 1, 1, 19), (19, .aload_n 0, 1, 20), (20, .getfield 12, 3, 23), (23, .iconst 0, 1, 24), (24, .invokevirtual 93, 3, 27), (27, .iload_n 2, 1, 28), (28, .invokevirtual 271, 3, 31), (31, .ifCond .eq 7, 3, 34), (34, .iconst 1, 1, 35), (35, .goto 4, 3, 38), (38, .iconst 0, 1, 39), (39, .ireturn, 1, 40)]
theorem jd_Top_fits : qm_D prog_1_method_25_code jl_Top_fits := qm_D_of (by decide +kernel)
noncomputable def jf_Top_fits (this : Nat) (p1 : Int32) (p2 : Int32) : qm_M Int32 :=
  mB (jf_Top_asks this p1 p2) fun x1 =>
  if ¬ x1 = 0 then
    mB (jf_Run_setting (qm_rf this 0) 0) fun x2 =>
    mB (jf_Fitter_fitsAll (qm_rf (qm_rf this 6) 2) p1 x2 p2) fun x3 =>
    if x3 = 0 then
      mP 0
    else
      mP 1
  else
    mP (-1)
set_option maxRecDepth 20000 in
set_option maxHeartbeats 4000000 in
theorem jb_Top_fits {X : qm_X} (hX : qm_ok X qr_Top prog_1_method_25_code 3 7 156 jl_Top_fits) {r0 : Int32} {σ0 : qm_Mem} (hR : qm_RI X r0 σ0 .int) (this : Nat) (p1 : Int32) (p2 : Int32) (hthis : (qm_kd this).1 = 18) : qm_B X (jf_Top_fits this p1 p2) 0 [some (.ref (qx_ad X this)), some (.int p1), some (.int p2)] [] (fun r σ1 => r = r0 ∧ σ1 = σ0) := by
  unfold jf_Top_fits
  refine qb_aload_n hX 0 rfl rfl ?_
  refine qb_iload_n hX 1 rfl rfl ?_
  refine qb_iload_n hX 2 rfl rfl ?_
  refine qb_callI hX 3 rfl cv_Top_264 (jm_Top_asks (qk_GI hX) this p1 p2 hthis ) (ci := 8) hthis ⟨rfl, rfl, rfl, by decide, by decide⟩ rfl (by exact Nat.le_of_ble_eq_true rfl) (fun x1 => ?_)
  refine qb_ifne hX 4 11 rfl (by decide) ?_ ?_
  ·
    refine qb_aload_n hX 7 rfl rfl ?_
    refine qb_getR hX 8 rfl fl_Top_48 hthis rfl ?_
    refine qb_getR hX 9 rfl fl_Top_267 (kf_Top_6 hthis) rfl ?_
    refine qb_iload_n hX 10 rfl rfl ?_
    refine qb_aload_n hX 11 rfl rfl ?_
    refine qb_getR hX 12 rfl fl_Top_12 hthis rfl ?_
    refine qb_iconst hX 13 0 rfl (by decide) ?_
    refine qb_callI hX 14 rfl cv_Top_93 (jm_Run_setting (qk_GI hX) (qm_rf this 0) 0 (kf_Top_0 hthis) ) (ci := 4) (kf_Top_0 hthis) ⟨rfl, rfl, rfl, by decide, by decide⟩ rfl (by exact Nat.le_of_ble_eq_true rfl) (fun x2 => ?_)
    refine qb_iload_n hX 15 rfl rfl ?_
    refine qb_callI hX 16 rfl cv_Top_271 (jm_Fitter_fitsAll (qk_GI hX) (qm_rf (qm_rf this 6) 2) p1 x2 p2 (kf_Press_2 (kf_Top_6 hthis)) ) (ci := 0) (kf_Press_2 (kf_Top_6 hthis)) ⟨rfl, rfl, rfl, by decide, by decide⟩ rfl (by exact Nat.le_of_ble_eq_true rfl) (fun x3 => ?_)
    refine qb_ifeq hX 17 38 rfl (by decide) ?_ ?_
    ·
      refine qb_iconst hX 20 0 rfl (by decide) ?_
      exact qb_iret hX 21 rfl hR (fun _ h => h)
    ·
      refine qb_iconst hX 18 1 rfl (by decide) ?_
      refine qb_goto hX 19 (tgt := 39) rfl (by decide) ?_
      exact qb_iret hX 21 rfl hR (fun _ h => h)
  ·
    refine qb_iconst hX 5 (-1) rfl (by decide) ?_
    exact qb_iret hX 6 rfl hR (fun _ h => h)
theorem jm_Top_fits {l : Launch} {G : qm_G} (hG : qm_GI G) (this : Nat) (p1 : Int32) (p2 : Int32) (hthis : (qm_kd this).1 = 18) : qm_MI l G jy_Top_fits prog_1_method_25_code 3 (some .int) 7 156 [.ref (G.1 this), .int p1, .int p2] (jf_Top_fits this p1 p2) :=
  qm_metI (by decide +kernel) jd_Top_fits (fun v hv => by simp only [List.mem_cons, List.not_mem_nil, or_false] at hv; rcases hv with rfl | rfl | rfl <;> rfl) (by exact Nat.le_of_ble_eq_true rfl) hG rfl (fun X hl hg hX r0 σ0 hR => by subst hl; subst hg; exact jb_Top_fits hX hR this p1 p2 hthis)
def jl_Top_least : List qm_I := [(0, .aload_n 0, 1, 1), (1, .iload_n 1, 1, 2), (2, .iconst 0, 1, 3), (3, .invokevirtual 264, 3, 6), (6, .ifCond .ne 5, 3, 9), (9, .iconst (-1), 1, 10), (10, .ireturn, 1, 11), (11, .aload_n 0, 1, 12), (12, .getfield 48, 3, 15), (15, .getfield 267, 3, 18), (18, .iload_n 1, 1, 19), (19, .invokevirtual 277, 3, 22), (22, .ireturn, 1, 23)]
theorem jd_Top_least : qm_D prog_1_method_26_code jl_Top_least := qm_D_of (by decide +kernel)
noncomputable def jf_Top_least (this : Nat) (p1 : Int32) : qm_M Int32 :=
  mB (jf_Top_asks this p1 0) fun x1 =>
  if ¬ x1 = 0 then
    mB (jf_Fitter_leastOf (qm_rf (qm_rf this 6) 2) p1) fun x2 =>
    mP x2
  else
    mP (-1)
set_option maxRecDepth 20000 in
set_option maxHeartbeats 4000000 in
theorem jb_Top_least {X : qm_X} (hX : qm_ok X qr_Top prog_1_method_26_code 2 7 156 jl_Top_least) {r0 : Int32} {σ0 : qm_Mem} (hR : qm_RI X r0 σ0 .int) (this : Nat) (p1 : Int32) (hthis : (qm_kd this).1 = 18) : qm_B X (jf_Top_least this p1) 0 [some (.ref (qx_ad X this)), some (.int p1)] [] (fun r σ1 => r = r0 ∧ σ1 = σ0) := by
  unfold jf_Top_least
  refine qb_aload_n hX 0 rfl rfl ?_
  refine qb_iload_n hX 1 rfl rfl ?_
  refine qb_iconst hX 2 0 rfl (by decide) ?_
  refine qb_callI hX 3 rfl cv_Top_264 (jm_Top_asks (qk_GI hX) this p1 0 hthis ) (ci := 8) hthis ⟨rfl, rfl, rfl, by decide, by decide⟩ rfl (by exact Nat.le_of_ble_eq_true rfl) (fun x1 => ?_)
  refine qb_ifne hX 4 11 rfl (by decide) ?_ ?_
  ·
    refine qb_aload_n hX 7 rfl rfl ?_
    refine qb_getR hX 8 rfl fl_Top_48 hthis rfl ?_
    refine qb_getR hX 9 rfl fl_Top_267 (kf_Top_6 hthis) rfl ?_
    refine qb_iload_n hX 10 rfl rfl ?_
    refine qb_callI hX 11 rfl cv_Top_277 (jm_Fitter_leastOf (qk_GI hX) (qm_rf (qm_rf this 6) 2) p1 (kf_Press_2 (kf_Top_6 hthis)) ) (ci := 0) (kf_Press_2 (kf_Top_6 hthis)) ⟨rfl, rfl, rfl, by decide, by decide⟩ rfl (by exact Nat.le_of_ble_eq_true rfl) (fun x2 => ?_)
    exact qb_iret hX 12 rfl hR (fun _ h => h)
  ·
    refine qb_iconst hX 5 (-1) rfl (by decide) ?_
    exact qb_iret hX 6 rfl hR (fun _ h => h)
theorem jm_Top_least {l : Launch} {G : qm_G} (hG : qm_GI G) (this : Nat) (p1 : Int32) (hthis : (qm_kd this).1 = 18) : qm_MI l G jy_Top_least prog_1_method_26_code 2 (some .int) 7 156 [.ref (G.1 this), .int p1] (jf_Top_least this p1) :=
  qm_metI (by decide +kernel) jd_Top_least (fun v hv => by simp only [List.mem_cons, List.not_mem_nil, or_false] at hv; rcases hv with rfl | rfl <;> rfl) (by exact Nat.le_of_ble_eq_true rfl) hG rfl (fun X hl hg hX r0 σ0 hR => by subst hl; subst hg; exact jb_Top_least hX hR this p1 hthis)
def jl_Top_reach : List qm_I := [(0, .aload_n 0, 1, 1), (1, .iload_n 1, 1, 2), (2, .iload_n 3, 1, 3), (3, .invokevirtual 264, 3, 6), (6, .ifCond .eq 13, 3, 9), (9, .iload_n 2, 1, 10), (10, .iconst 1, 1, 11), (11, .if_icmp .lt 8, 3, 14), (14, .iload_n 2, 1, 15), (15, .iconst 5, 1, 16), (16, .if_icmp .le 5, 3, 19), (19, .iconst (-1), 1, 20), (20, .ireturn, 1, 21), (21, .aload_n 0, 1, 22), (22, .getfield 60, 3, 25), (25, .iload_n 1, 1, 26), (26, .iload_n 2, 1, 27), (27, .iload_n 3, 1, 28), (28, .invokevirtual 280, 3, 31), (31, .ireturn, 1, 32)]
theorem jd_Top_reach : qm_D prog_1_method_27_code jl_Top_reach := qm_D_of (by decide +kernel)
noncomputable def jf_Top_reach (this : Nat) (p1 : Int32) (p2 : Int32) (p3 : Int32) : qm_M Int32 :=
  mB (jf_Top_asks this p1 p3) fun x1 =>
  if x1 = 0 then
    mP (-1)
  else
    if p2 < 1 then
      mP (-1)
    else
      if p2 ≤ 5 then
        mB (jf_Walker_farthest (qm_rf this 8) p1 p2 p3) fun x2 =>
        mP x2
      else
        mP (-1)
set_option maxRecDepth 20000 in
set_option maxHeartbeats 4000000 in
theorem jb_Top_reach {X : qm_X} (hX : qm_ok X qr_Top prog_1_method_27_code 4 7 156 jl_Top_reach) {r0 : Int32} {σ0 : qm_Mem} (hR : qm_RI X r0 σ0 .int) (this : Nat) (p1 : Int32) (p2 : Int32) (p3 : Int32) (hthis : (qm_kd this).1 = 18) : qm_B X (jf_Top_reach this p1 p2 p3) 0 [some (.ref (qx_ad X this)), some (.int p1), some (.int p2), some (.int p3)] [] (fun r σ1 => r = r0 ∧ σ1 = σ0) := by
  unfold jf_Top_reach
  refine qb_aload_n hX 0 rfl rfl ?_
  refine qb_iload_n hX 1 rfl rfl ?_
  refine qb_iload_n hX 2 rfl rfl ?_
  refine qb_callI hX 3 rfl cv_Top_264 (jm_Top_asks (qk_GI hX) this p1 p3 hthis ) (ci := 8) hthis ⟨rfl, rfl, rfl, by decide, by decide⟩ rfl (by exact Nat.le_of_ble_eq_true rfl) (fun x1 => ?_)
  refine qb_ifeq hX 4 19 rfl (by decide) ?_ ?_
  ·
    refine qb_iconst hX 11 (-1) rfl (by decide) ?_
    exact qb_iret hX 12 rfl hR (fun _ h => h)
  ·
    refine qb_iload_n hX 5 rfl rfl ?_
    refine qb_iconst hX 6 1 rfl (by decide) ?_
    refine qb_iclt hX 7 19 rfl (by decide) ?_ ?_
    ·
      refine qb_iconst hX 11 (-1) rfl (by decide) ?_
      exact qb_iret hX 12 rfl hR (fun _ h => h)
    ·
      refine qb_iload_n hX 8 rfl rfl ?_
      refine qb_iconst hX 9 5 rfl (by decide) ?_
      refine qb_icle hX 10 21 rfl (by decide) ?_ ?_
      ·
        refine qb_aload_n hX 13 rfl rfl ?_
        refine qb_getR hX 14 rfl fl_Top_60 hthis rfl ?_
        refine qb_iload_n hX 15 rfl rfl ?_
        refine qb_iload_n hX 16 rfl rfl ?_
        refine qb_iload_n hX 17 rfl rfl ?_
        refine qb_callI hX 18 rfl cv_Top_280 (jm_Walker_farthest (qk_GI hX) (qm_rf this 8) p1 p2 p3 (kf_Top_8 hthis) ) (ci := 7) (kf_Top_8 hthis) ⟨rfl, rfl, rfl, by decide, by decide⟩ rfl (by exact Nat.le_of_ble_eq_true rfl) (fun x2 => ?_)
        exact qb_iret hX 19 rfl hR (fun _ h => h)
      ·
        refine qb_iconst hX 11 (-1) rfl (by decide) ?_
        exact qb_iret hX 12 rfl hR (fun _ h => h)
theorem jm_Top_reach {l : Launch} {G : qm_G} (hG : qm_GI G) (this : Nat) (p1 : Int32) (p2 : Int32) (p3 : Int32) (hthis : (qm_kd this).1 = 18) : qm_MI l G jy_Top_reach prog_1_method_27_code 4 (some .int) 7 156 [.ref (G.1 this), .int p1, .int p2, .int p3] (jf_Top_reach this p1 p2 p3) :=
  qm_metI (by decide +kernel) jd_Top_reach (fun v hv => by simp only [List.mem_cons, List.not_mem_nil, or_false] at hv; rcases hv with rfl | rfl | rfl | rfl <;> rfl) (by exact Nat.le_of_ble_eq_true rfl) hG rfl (fun X hl hg hX r0 σ0 hR => by subst hl; subst hg; exact jb_Top_reach hX hR this p1 p2 p3 hthis)
def jl_Top_ways : List qm_I := [(0, .aload_n 0, 1, 1), (1, .iload_n 1, 1, 2), (2, .iload_n 2, 1, 3), (3, .invokevirtual 264, 3, 6), (6, .ifCond .ne 5, 3, 9), (9, .iconst (-1), 1, 10), (10, .ireturn, 1, 11), (11, .aload_n 0, 1, 12), (12, .getfield 60, 3, 15), (15, .iload_n 1, 1, 16), (16, .aload_n 0, 1, 17), (17, .getfield 12, 3, 20), (20, .iconst 0, 1, 21), (21, .invokevirtual 93, 3, 24), (24, .iload_n 2, 1, 25), (25, .invokevirtual 284, 3, 28), (28, .ireturn, 1, 29)]
theorem jd_Top_ways : qm_D prog_1_method_28_code jl_Top_ways := qm_D_of (by decide +kernel)
noncomputable def jf_Top_ways (this : Nat) (p1 : Int32) (p2 : Int32) : qm_M Int32 :=
  mB (jf_Top_asks this p1 p2) fun x1 =>
  if ¬ x1 = 0 then
    mB (jf_Run_setting (qm_rf this 0) 0) fun x2 =>
    mB (jf_Walker_rowsOfEnds (qm_rf this 8) p1 x2 p2) fun x3 =>
    mP x3
  else
    mP (-1)
set_option maxRecDepth 20000 in
set_option maxHeartbeats 4000000 in
theorem jb_Top_ways {X : qm_X} (hX : qm_ok X qr_Top prog_1_method_28_code 3 7 156 jl_Top_ways) {r0 : Int32} {σ0 : qm_Mem} (hR : qm_RI X r0 σ0 .int) (this : Nat) (p1 : Int32) (p2 : Int32) (hthis : (qm_kd this).1 = 18) : qm_B X (jf_Top_ways this p1 p2) 0 [some (.ref (qx_ad X this)), some (.int p1), some (.int p2)] [] (fun r σ1 => r = r0 ∧ σ1 = σ0) := by
  unfold jf_Top_ways
  refine qb_aload_n hX 0 rfl rfl ?_
  refine qb_iload_n hX 1 rfl rfl ?_
  refine qb_iload_n hX 2 rfl rfl ?_
  refine qb_callI hX 3 rfl cv_Top_264 (jm_Top_asks (qk_GI hX) this p1 p2 hthis ) (ci := 8) hthis ⟨rfl, rfl, rfl, by decide, by decide⟩ rfl (by exact Nat.le_of_ble_eq_true rfl) (fun x1 => ?_)
  refine qb_ifne hX 4 11 rfl (by decide) ?_ ?_
  ·
    refine qb_aload_n hX 7 rfl rfl ?_
    refine qb_getR hX 8 rfl fl_Top_60 hthis rfl ?_
    refine qb_iload_n hX 9 rfl rfl ?_
    refine qb_aload_n hX 10 rfl rfl ?_
    refine qb_getR hX 11 rfl fl_Top_12 hthis rfl ?_
    refine qb_iconst hX 12 0 rfl (by decide) ?_
    refine qb_callI hX 13 rfl cv_Top_93 (jm_Run_setting (qk_GI hX) (qm_rf this 0) 0 (kf_Top_0 hthis) ) (ci := 4) (kf_Top_0 hthis) ⟨rfl, rfl, rfl, by decide, by decide⟩ rfl (by exact Nat.le_of_ble_eq_true rfl) (fun x2 => ?_)
    refine qb_iload_n hX 14 rfl rfl ?_
    refine qb_callI hX 15 rfl cv_Top_284 (jm_Walker_rowsOfEnds (qk_GI hX) (qm_rf this 8) p1 x2 p2 (kf_Top_8 hthis) ) (ci := 7) (kf_Top_8 hthis) ⟨rfl, rfl, rfl, by decide, by decide⟩ rfl (by exact Nat.le_of_ble_eq_true rfl) (fun x3 => ?_)
    exact qb_iret hX 16 rfl hR (fun _ h => h)
  ·
    refine qb_iconst hX 5 (-1) rfl (by decide) ?_
    exact qb_iret hX 6 rfl hR (fun _ h => h)
theorem jm_Top_ways {l : Launch} {G : qm_G} (hG : qm_GI G) (this : Nat) (p1 : Int32) (p2 : Int32) (hthis : (qm_kd this).1 = 18) : qm_MI l G jy_Top_ways prog_1_method_28_code 3 (some .int) 7 156 [.ref (G.1 this), .int p1, .int p2] (jf_Top_ways this p1 p2) :=
  qm_metI (by decide +kernel) jd_Top_ways (fun v hv => by simp only [List.mem_cons, List.not_mem_nil, or_false] at hv; rcases hv with rfl | rfl | rfl <;> rfl) (by exact Nat.le_of_ble_eq_true rfl) hG rfl (fun X hl hg hX r0 σ0 hR => by subst hl; subst hg; exact jb_Top_ways hX hR this p1 p2 hthis)
def jl_Top_narrow : List qm_I := [(0, .aload_n 0, 1, 1), (1, .iload_n 1, 1, 2), (2, .iload_n 2, 1, 3), (3, .invokevirtual 264, 3, 6), (6, .ifCond .ne 5, 3, 9), (9, .iconst (-1), 1, 10), (10, .ireturn, 1, 11), (11, .iconst 1, 1, 12), (12, .istore_n 3, 1, 13), (13, .iload_n 3, 1, 14), (14, .iconst 5, 1, 15), (15, .if_icmp .gt 27, 3, 18), (18, .aload_n 0, 1, 19), (19, .getfield 48, 3, 22), (22, .getfield 267, 3, 25), (25, .iload_n 1, 1, 26), (26, .iload_n 3, 1, 27), (27, .iload_n 2, 1, 28), (28, .invokevirtual 271, 3, 31), (31, .ifCond .eq 5, 3, 34), (34, .iload_n 3, 1, 35), (35, .ireturn, 1, 36), (36, .iinc 3 1, 3, 39), (39, .goto (-26), 3, 42), (42, .bipush (-2), 2, 44), (44, .ireturn, 1, 45)]
theorem jd_Top_narrow : qm_D prog_1_method_29_code jl_Top_narrow := qm_D_of (by decide +kernel)
noncomputable def jf_Top_narrow (this : Nat) (p1 : Int32) (p2 : Int32) : qm_M Int32 :=
  mB (jf_Top_asks this p1 p2) fun x1 =>
  if ¬ x1 = 0 then
    mB (α := (Unit ⊕ Int32)) (
      mW (S := Int32) (α := (Unit ⊕ Int32)) (fun s3 =>
        if 5 < s3 then
          mP (Sum.inr (Sum.inl ()))
        else
          mB (jf_Fitter_fitsAll (qm_rf (qm_rf this 6) 2) p1 s3 p2) fun x4 =>
          if x4 = 0 then
            mB (mP (s3 + 1)) fun x5 =>
            mP (Sum.inl x5)
          else
            mP (Sum.inr (Sum.inr s3))) 1) (Sum.elim (fun s2 =>
      mP (-2)) mP)
  else
    mP (-1)
set_option maxRecDepth 20000 in
set_option maxHeartbeats 4000000 in
theorem jb_Top_narrow {X : qm_X} (hX : qm_ok X qr_Top prog_1_method_29_code 4 7 156 jl_Top_narrow) {r0 : Int32} {σ0 : qm_Mem} (hR : qm_RI X r0 σ0 .int) (this : Nat) (p1 : Int32) (p2 : Int32) (hthis : (qm_kd this).1 = 18) : qm_B X (jf_Top_narrow this p1 p2) 0 [some (.ref (qx_ad X this)), some (.int p1), some (.int p2), none] [] (fun r σ1 => r = r0 ∧ σ1 = σ0) := by
  unfold jf_Top_narrow
  refine qb_aload_n hX 0 rfl rfl ?_
  refine qb_iload_n hX 1 rfl rfl ?_
  refine qb_iload_n hX 2 rfl rfl ?_
  refine qb_callI hX 3 rfl cv_Top_264 (jm_Top_asks (qk_GI hX) this p1 p2 hthis ) (ci := 8) hthis ⟨rfl, rfl, rfl, by decide, by decide⟩ rfl (by exact Nat.le_of_ble_eq_true rfl) (fun x1 => ?_)
  refine qb_ifne hX 4 11 rfl (by decide) ?_ ?_
  ·
    refine qb_iconst hX 7 1 rfl (by decide) ?_
    refine qb_istore_n hX 8 ([some (.ref (qx_ad X this)), some (.int p1), some (.int p2), some (.int 1)]) rfl (by decide) rfl ?_
    refine qb_join2 42 (fun s2 => [none, none, none, none]) (fun s2 => []) ?_ ?_
    ·
      refine qb_loopw (1) (fun s3 => [some (.ref (qx_ad X this)), some (.int p1), some (.int p2), some (.int s3)]) (qw_s (qw_s (qw_s (qw_s (qw_0))))) (fun s3 => ?_)
      refine qb_iload_n hX 9 rfl rfl ?_
      refine qb_iconst hX 10 5 rfl (by decide) ?_
      refine qb_icgt hX 11 42 rfl (by decide) ?_ ?_
      ·
        exact qb_exit (fun σ h => qj_wk (ρ' := [none, none, none, none]) (qw_n (qw_n (qw_n (qw_n (qw_0))))) h)
      ·
        refine qb_aload_n hX 12 rfl rfl ?_
        refine qb_getR hX 13 rfl fl_Top_48 hthis rfl ?_
        refine qb_getR hX 14 rfl fl_Top_267 (kf_Top_6 hthis) rfl ?_
        refine qb_iload_n hX 15 rfl rfl ?_
        refine qb_iload_n hX 16 rfl rfl ?_
        refine qb_iload_n hX 17 rfl rfl ?_
        refine qb_callI hX 18 rfl cv_Top_271 (jm_Fitter_fitsAll (qk_GI hX) (qm_rf (qm_rf this 6) 2) p1 s3 p2 (kf_Press_2 (kf_Top_6 hthis)) ) (ci := 0) (kf_Press_2 (kf_Top_6 hthis)) ⟨rfl, rfl, rfl, by decide, by decide⟩ rfl (by exact Nat.le_of_ble_eq_true rfl) (fun x4 => ?_)
        refine qb_ifeq hX 19 36 rfl (by decide) ?_ ?_
        ·
          refine qb_iinc hX 22 1 (fun x5 => [some (.ref (qx_ad X this)), some (.int p1), some (.int p2), some (.int x5)]) rfl (by decide) (by decide) rfl (fun _ => rfl) (fun x5 => ?_)
          exact qb_exit (fun σ h => qj_goto hX 23 rfl (by decide) (qj_wk (ρ' := [some (.ref (qx_ad X this)), some (.int p1), some (.int p2), some (.int x5)]) (qw_s (qw_s (qw_s (qw_s (qw_0))))) h))
        ·
          refine qb_iload_n hX 20 rfl rfl ?_
          exact qb_iret hX 21 rfl hR (fun _ h => h)
    · intro s2
      refine qb_bipush hX 24 (-2) rfl (by decide) ?_
      exact qb_iret hX 25 rfl hR (fun _ h => h)
  ·
    refine qb_iconst hX 5 (-1) rfl (by decide) ?_
    exact qb_iret hX 6 rfl hR (fun _ h => h)
theorem jm_Top_narrow {l : Launch} {G : qm_G} (hG : qm_GI G) (this : Nat) (p1 : Int32) (p2 : Int32) (hthis : (qm_kd this).1 = 18) : qm_MI l G jy_Top_narrow prog_1_method_29_code 4 (some .int) 7 156 [.ref (G.1 this), .int p1, .int p2] (jf_Top_narrow this p1 p2) :=
  qm_metI (by decide +kernel) jd_Top_narrow (fun v hv => by simp only [List.mem_cons, List.not_mem_nil, or_false] at hv; rcases hv with rfl | rfl | rfl <;> rfl) (by exact Nat.le_of_ble_eq_true rfl) hG rfl (fun X hl hg hX r0 σ0 hR => by subst hl; subst hg; exact jb_Top_narrow hX hR this p1 p2 hthis)
def jl_Top_even : List qm_I := [(0, .aload_n 0, 1, 1), (1, .iload_n 1, 1, 2), (2, .iconst 0, 1, 3), (3, .invokevirtual 264, 3, 6), (6, .ifCond .ne 5, 3, 9), (9, .iconst (-1), 1, 10), (10, .ireturn, 1, 11), (11, .aload_n 0, 1, 12), (12, .getfield 48, 3, 15), (15, .getfield 267, 3, 18), (18, .iload_n 1, 1, 19), (19, .invokevirtual 277, 3, 22), (22, .istore_n 2, 1, 23), (23, .iload_n 2, 1, 24), (24, .bipush (-2), 2, 26), (26, .if_icmp .ne 6, 3, 29), (29, .bipush (-2), 2, 31), (31, .ireturn, 1, 32), (32, .aload_n 0, 1, 33), (33, .getfield 52, 3, 36), (36, .getfield 287, 3, 39), (39, .aload_n 0, 1, 40), (40, .getfield 12, 3, 43), (43, .invokevirtual 79, 3, 46), (46, .aload_n 0, 1, 47), (47, .getfield 52, 3, 50), (50, .invokevirtual 288, 3, 53), (53, .aload_n 0, 1, 54), (54, .getfield 52, 3, 57), (57, .iload_n 1, 1, 58), (58, .iload_n 2, 1, 59), (59, .invokevirtual 291, 3, 62), (62, .aload_n 0, 1, 63), (63, .getfield 52, 3, 66), (66, .invokevirtual 294, 3, 69), (69, .ireturn, 1, 70)]
theorem jd_Top_even : qm_D prog_1_method_30_code jl_Top_even := qm_D_of (by decide +kernel)
noncomputable def jf_Top_even (this : Nat) (p1 : Int32) : qm_M Int32 :=
  mB (jf_Top_asks this p1 0) fun x1 =>
  if ¬ x1 = 0 then
    mB (jf_Fitter_leastOf (qm_rf (qm_rf this 6) 2) p1) fun x2 =>
    if ¬ x2 = (-2) then
      mB (jf_Run_copyFrom (qm_rf (qm_rf this 7) 0) (qm_rf this 0)) fun _ =>
      mB (jf_Press_lay (qm_rf this 7)) fun _ =>
      mB (jf_Press_levelAlone (qm_rf this 7) p1 x2) fun _ =>
      mB (jf_Press_difference (qm_rf this 7)) fun x3 =>
      mP x3
    else
      mP (-2)
  else
    mP (-1)
set_option maxRecDepth 20000 in
set_option maxHeartbeats 4000000 in
theorem jb_Top_even {X : qm_X} (hX : qm_ok X qr_Top prog_1_method_30_code 3 7 156 jl_Top_even) {r0 : Int32} {σ0 : qm_Mem} (hR : qm_RI X r0 σ0 .int) (this : Nat) (p1 : Int32) (hthis : (qm_kd this).1 = 18) : qm_B X (jf_Top_even this p1) 0 [some (.ref (qx_ad X this)), some (.int p1), none] [] (fun r σ1 => r = r0 ∧ σ1 = σ0) := by
  unfold jf_Top_even
  refine qb_aload_n hX 0 rfl rfl ?_
  refine qb_iload_n hX 1 rfl rfl ?_
  refine qb_iconst hX 2 0 rfl (by decide) ?_
  refine qb_callI hX 3 rfl cv_Top_264 (jm_Top_asks (qk_GI hX) this p1 0 hthis ) (ci := 8) hthis ⟨rfl, rfl, rfl, by decide, by decide⟩ rfl (by exact Nat.le_of_ble_eq_true rfl) (fun x1 => ?_)
  refine qb_ifne hX 4 11 rfl (by decide) ?_ ?_
  ·
    refine qb_aload_n hX 7 rfl rfl ?_
    refine qb_getR hX 8 rfl fl_Top_48 hthis rfl ?_
    refine qb_getR hX 9 rfl fl_Top_267 (kf_Top_6 hthis) rfl ?_
    refine qb_iload_n hX 10 rfl rfl ?_
    refine qb_callI hX 11 rfl cv_Top_277 (jm_Fitter_leastOf (qk_GI hX) (qm_rf (qm_rf this 6) 2) p1 (kf_Press_2 (kf_Top_6 hthis)) ) (ci := 0) (kf_Press_2 (kf_Top_6 hthis)) ⟨rfl, rfl, rfl, by decide, by decide⟩ rfl (by exact Nat.le_of_ble_eq_true rfl) (fun x2 => ?_)
    refine qb_istore_n hX 12 ([some (.ref (qx_ad X this)), some (.int p1), some (.int x2)]) rfl (by decide) rfl ?_
    refine qb_iload_n hX 13 rfl rfl ?_
    refine qb_bipush hX 14 (-2) rfl (by decide) ?_
    refine qb_icne hX 15 32 rfl (by decide) ?_ ?_
    ·
      refine qb_aload_n hX 18 rfl rfl ?_
      refine qb_getR hX 19 rfl fl_Top_52 hthis rfl ?_
      refine qb_getR hX 20 rfl fl_Top_287 (kf_Top_7 hthis) rfl ?_
      refine qb_aload_n hX 21 rfl rfl ?_
      refine qb_getR hX 22 rfl fl_Top_12 hthis rfl ?_
      refine qb_callV hX 23 rfl cv_Top_79 (jm_Run_copyFrom (qk_GI hX) (qm_rf (qm_rf this 7) 0) (qm_rf this 0) (kf_Press_0 (kf_Top_7 hthis)) (kf_Top_0 hthis)) (ci := 4) (kf_Press_0 (kf_Top_7 hthis)) ⟨rfl, rfl, rfl, by decide, by decide⟩ rfl (by exact Nat.le_of_ble_eq_true rfl) ?_
      refine qb_aload_n hX 24 rfl rfl ?_
      refine qb_getR hX 25 rfl fl_Top_52 hthis rfl ?_
      refine qb_callV hX 26 rfl cv_Top_288 (jm_Press_lay (qk_GI hX) (qm_rf this 7)  (kf_Top_7 hthis) ) (ci := 3) (kf_Top_7 hthis) ⟨rfl, rfl, rfl, by decide, by decide⟩ rfl (by exact Nat.le_of_ble_eq_true rfl) ?_
      refine qb_aload_n hX 27 rfl rfl ?_
      refine qb_getR hX 28 rfl fl_Top_52 hthis rfl ?_
      refine qb_iload_n hX 29 rfl rfl ?_
      refine qb_iload_n hX 30 rfl rfl ?_
      refine qb_callV hX 31 rfl cv_Top_291 (jm_Press_levelAlone (qk_GI hX) (qm_rf this 7) p1 x2 (kf_Top_7 hthis) ) (ci := 3) (kf_Top_7 hthis) ⟨rfl, rfl, rfl, by decide, by decide⟩ rfl (by exact Nat.le_of_ble_eq_true rfl) ?_
      refine qb_aload_n hX 32 rfl rfl ?_
      refine qb_getR hX 33 rfl fl_Top_52 hthis rfl ?_
      refine qb_callI hX 34 rfl cv_Top_294 (jm_Press_difference (qk_GI hX) (qm_rf this 7)  (kf_Top_7 hthis) ) (ci := 3) (kf_Top_7 hthis) ⟨rfl, rfl, rfl, by decide, by decide⟩ rfl (by exact Nat.le_of_ble_eq_true rfl) (fun x3 => ?_)
      exact qb_iret hX 35 rfl hR (fun _ h => h)
    ·
      refine qb_bipush hX 16 (-2) rfl (by decide) ?_
      exact qb_iret hX 17 rfl hR (fun _ h => h)
  ·
    refine qb_iconst hX 5 (-1) rfl (by decide) ?_
    exact qb_iret hX 6 rfl hR (fun _ h => h)
theorem jm_Top_even {l : Launch} {G : qm_G} (hG : qm_GI G) (this : Nat) (p1 : Int32) (hthis : (qm_kd this).1 = 18) : qm_MI l G jy_Top_even prog_1_method_30_code 3 (some .int) 7 156 [.ref (G.1 this), .int p1] (jf_Top_even this p1) :=
  qm_metI (by decide +kernel) jd_Top_even (fun v hv => by simp only [List.mem_cons, List.not_mem_nil, or_false] at hv; rcases hv with rfl | rfl <;> rfl) (by exact Nat.le_of_ble_eq_true rfl) hG rfl (fun X hl hg hX r0 σ0 hR => by subst hl; subst hg; exact jb_Top_even hX hR this p1 hthis)
def jl_Top_costs : List qm_I := [(0, .aload_n 0, 1, 1), (1, .iload_n 1, 1, 2), (2, .iconst 0, 1, 3), (3, .invokevirtual 264, 3, 6), (6, .ifCond .eq 12, 3, 9), (9, .iload_n 2, 1, 10), (10, .ifCond .lt 8, 3, 13), (13, .iload_n 2, 1, 14), (14, .iconst 4, 1, 15), (15, .if_icmp .le 5, 3, 18), (18, .iconst (-1), 1, 19), (19, .ireturn, 1, 20), (20, .aload_n 0, 1, 21), (21, .getfield 48, 3, 24), (24, .getfield 267, 3, 27), (27, .iload_n 1, 1, 28), (28, .invokevirtual 277, 3, 31), (31, .istore_n 3, 1, 32), (32, .iload_n 3, 1, 33), (33, .bipush (-2), 2, 35), (35, .if_icmp .ne 6, 3, 38), (38, .bipush (-2), 2, 40), (40, .ireturn, 1, 41), (41, .aload_n 0, 1, 42), (42, .getfield 52, 3, 45), (45, .getfield 287, 3, 48), (48, .aload_n 0, 1, 49), (49, .getfield 12, 3, 52), (52, .invokevirtual 79, 3, 55), (55, .aload_n 0, 1, 56), (56, .getfield 52, 3, 59), (59, .getfield 287, 3, 62), (62, .iload_n 2, 1, 63), (63, .invokevirtual 297, 3, 66), (66, .aload_n 0, 1, 67), (67, .getfield 52, 3, 70), (70, .invokevirtual 288, 3, 73), (73, .iload_n 3, 1, 74), (74, .aload_n 0, 1, 75), (75, .getfield 52, 3, 78), (78, .getfield 267, 3, 81), (81, .iload_n 1, 1, 82), (82, .invokevirtual 277, 3, 85), (85, .isub, 1, 86), (86, .ireturn, 1, 87)]
theorem jd_Top_costs : qm_D prog_1_method_31_code jl_Top_costs := qm_D_of (by decide +kernel)
noncomputable def jf_Top_costs (this : Nat) (p1 : Int32) (p2 : Int32) : qm_M Int32 :=
  mB (jf_Top_asks this p1 0) fun x1 =>
  if x1 = 0 then
    mP (-1)
  else
    if p2 < 0 then
      mP (-1)
    else
      if p2 ≤ 4 then
        mB (jf_Fitter_leastOf (qm_rf (qm_rf this 6) 2) p1) fun x2 =>
        if ¬ x2 = (-2) then
          mB (jf_Run_copyFrom (qm_rf (qm_rf this 7) 0) (qm_rf this 0)) fun _ =>
          mB (jf_Run_withoutLaw (qm_rf (qm_rf this 7) 0) p2) fun _ =>
          mB (jf_Press_lay (qm_rf this 7)) fun _ =>
          mB (jf_Fitter_leastOf (qm_rf (qm_rf this 7) 2) p1) fun x3 =>
          mP (x2 - x3)
        else
          mP (-2)
      else
        mP (-1)
set_option maxRecDepth 20000 in
set_option maxHeartbeats 4000000 in
theorem jb_Top_costs {X : qm_X} (hX : qm_ok X qr_Top prog_1_method_31_code 4 7 156 jl_Top_costs) {r0 : Int32} {σ0 : qm_Mem} (hR : qm_RI X r0 σ0 .int) (this : Nat) (p1 : Int32) (p2 : Int32) (hthis : (qm_kd this).1 = 18) : qm_B X (jf_Top_costs this p1 p2) 0 [some (.ref (qx_ad X this)), some (.int p1), some (.int p2), none] [] (fun r σ1 => r = r0 ∧ σ1 = σ0) := by
  unfold jf_Top_costs
  refine qb_aload_n hX 0 rfl rfl ?_
  refine qb_iload_n hX 1 rfl rfl ?_
  refine qb_iconst hX 2 0 rfl (by decide) ?_
  refine qb_callI hX 3 rfl cv_Top_264 (jm_Top_asks (qk_GI hX) this p1 0 hthis ) (ci := 8) hthis ⟨rfl, rfl, rfl, by decide, by decide⟩ rfl (by exact Nat.le_of_ble_eq_true rfl) (fun x1 => ?_)
  refine qb_ifeq hX 4 18 rfl (by decide) ?_ ?_
  ·
    refine qb_iconst hX 10 (-1) rfl (by decide) ?_
    exact qb_iret hX 11 rfl hR (fun _ h => h)
  ·
    refine qb_iload_n hX 5 rfl rfl ?_
    refine qb_iflt hX 6 18 rfl (by decide) ?_ ?_
    ·
      refine qb_iconst hX 10 (-1) rfl (by decide) ?_
      exact qb_iret hX 11 rfl hR (fun _ h => h)
    ·
      refine qb_iload_n hX 7 rfl rfl ?_
      refine qb_iconst hX 8 4 rfl (by decide) ?_
      refine qb_icle hX 9 20 rfl (by decide) ?_ ?_
      ·
        refine qb_aload_n hX 12 rfl rfl ?_
        refine qb_getR hX 13 rfl fl_Top_48 hthis rfl ?_
        refine qb_getR hX 14 rfl fl_Top_267 (kf_Top_6 hthis) rfl ?_
        refine qb_iload_n hX 15 rfl rfl ?_
        refine qb_callI hX 16 rfl cv_Top_277 (jm_Fitter_leastOf (qk_GI hX) (qm_rf (qm_rf this 6) 2) p1 (kf_Press_2 (kf_Top_6 hthis)) ) (ci := 0) (kf_Press_2 (kf_Top_6 hthis)) ⟨rfl, rfl, rfl, by decide, by decide⟩ rfl (by exact Nat.le_of_ble_eq_true rfl) (fun x2 => ?_)
        refine qb_istore_n hX 17 ([some (.ref (qx_ad X this)), some (.int p1), some (.int p2), some (.int x2)]) rfl (by decide) rfl ?_
        refine qb_iload_n hX 18 rfl rfl ?_
        refine qb_bipush hX 19 (-2) rfl (by decide) ?_
        refine qb_icne hX 20 41 rfl (by decide) ?_ ?_
        ·
          refine qb_aload_n hX 23 rfl rfl ?_
          refine qb_getR hX 24 rfl fl_Top_52 hthis rfl ?_
          refine qb_getR hX 25 rfl fl_Top_287 (kf_Top_7 hthis) rfl ?_
          refine qb_aload_n hX 26 rfl rfl ?_
          refine qb_getR hX 27 rfl fl_Top_12 hthis rfl ?_
          refine qb_callV hX 28 rfl cv_Top_79 (jm_Run_copyFrom (qk_GI hX) (qm_rf (qm_rf this 7) 0) (qm_rf this 0) (kf_Press_0 (kf_Top_7 hthis)) (kf_Top_0 hthis)) (ci := 4) (kf_Press_0 (kf_Top_7 hthis)) ⟨rfl, rfl, rfl, by decide, by decide⟩ rfl (by exact Nat.le_of_ble_eq_true rfl) ?_
          refine qb_aload_n hX 29 rfl rfl ?_
          refine qb_getR hX 30 rfl fl_Top_52 hthis rfl ?_
          refine qb_getR hX 31 rfl fl_Top_287 (kf_Top_7 hthis) rfl ?_
          refine qb_iload_n hX 32 rfl rfl ?_
          refine qb_callV hX 33 rfl cv_Top_297 (jm_Run_withoutLaw (qk_GI hX) (qm_rf (qm_rf this 7) 0) p2 (kf_Press_0 (kf_Top_7 hthis)) ) (ci := 4) (kf_Press_0 (kf_Top_7 hthis)) ⟨rfl, rfl, rfl, by decide, by decide⟩ rfl (by exact Nat.le_of_ble_eq_true rfl) ?_
          refine qb_aload_n hX 34 rfl rfl ?_
          refine qb_getR hX 35 rfl fl_Top_52 hthis rfl ?_
          refine qb_callV hX 36 rfl cv_Top_288 (jm_Press_lay (qk_GI hX) (qm_rf this 7)  (kf_Top_7 hthis) ) (ci := 3) (kf_Top_7 hthis) ⟨rfl, rfl, rfl, by decide, by decide⟩ rfl (by exact Nat.le_of_ble_eq_true rfl) ?_
          refine qb_iload_n hX 37 rfl rfl ?_
          refine qb_aload_n hX 38 rfl rfl ?_
          refine qb_getR hX 39 rfl fl_Top_52 hthis rfl ?_
          refine qb_getR hX 40 rfl fl_Top_267 (kf_Top_7 hthis) rfl ?_
          refine qb_iload_n hX 41 rfl rfl ?_
          refine qb_callI hX 42 rfl cv_Top_277 (jm_Fitter_leastOf (qk_GI hX) (qm_rf (qm_rf this 7) 2) p1 (kf_Press_2 (kf_Top_7 hthis)) ) (ci := 0) (kf_Press_2 (kf_Top_7 hthis)) ⟨rfl, rfl, rfl, by decide, by decide⟩ rfl (by exact Nat.le_of_ble_eq_true rfl) (fun x3 => ?_)
          refine qb_isub hX 43 rfl ?_
          exact qb_iret hX 44 rfl hR (fun _ h => h)
        ·
          refine qb_bipush hX 21 (-2) rfl (by decide) ?_
          exact qb_iret hX 22 rfl hR (fun _ h => h)
      ·
        refine qb_iconst hX 10 (-1) rfl (by decide) ?_
        exact qb_iret hX 11 rfl hR (fun _ h => h)
theorem jm_Top_costs {l : Launch} {G : qm_G} (hG : qm_GI G) (this : Nat) (p1 : Int32) (p2 : Int32) (hthis : (qm_kd this).1 = 18) : qm_MI l G jy_Top_costs prog_1_method_31_code 4 (some .int) 7 156 [.ref (G.1 this), .int p1, .int p2] (jf_Top_costs this p1 p2) :=
  qm_metI (by decide +kernel) jd_Top_costs (fun v hv => by simp only [List.mem_cons, List.not_mem_nil, or_false] at hv; rcases hv with rfl | rfl | rfl <;> rfl) (by exact Nat.le_of_ble_eq_true rfl) hG rfl (fun X hl hg hX r0 σ0 hR => by subst hl; subst hg; exact jb_Top_costs hX hR this p1 p2 hthis)
def jl_Top_fitsUntied : List qm_I := [(0, .iconst 0, 1, 1), (1, .istore 4, 2, 3), (3, .iload 4, 2, 5), (5, .aload_n 0, 1, 6), (6, .getfield 12, 3, 9), (9, .getfield 122, 3, 12), (12, .if_icmp .ge 50, 3, 15), (15, .iload_n 3, 1, 16), (16, .iload 4, 2, 18), (18, .ishr, 1, 19), (19, .iconst 1, 1, 20), (20, .iand, 1, 21), (21, .istore 5, 2, 23), (23, .aload_n 0, 1, 24), (24, .getfield 52, 3, 27), (27, .getfield 287, 3, 30), (30, .iload 4, 2, 32), (32, .iconst 4, 1, 33), (33, .iload 5, 2, 35), (35, .iconst 1, 1, 36), (36, .if_icmp .ne 7, 3, 39), (39, .iconst 0, 1, 40), (40, .goto 13, 3, 43), (43, .aload_n 0, 1, 44), (44, .getfield 12, 3, 47), (47, .iload 4, 2, 49), (49, .iconst 4, 1, 50), (50, .invokevirtual 108, 3, 53), (53, .invokevirtual 112, 3, 56), (56, .iinc 4 1, 3, 59), (59, .goto (-56), 3, 62), (62, .aload_n 0, 1, 63), (63, .getfield 52, 3, 66), (66, .invokevirtual 337, 3, 69), (69, .aload_n 0, 1, 70), (70, .getfield 52, 3, 73), (73, .getfield 267, 3, 76), (76, .iload_n 1, 1, 77), (77, .aload_n 0, 1, 78), (78, .getfield 12, 3, 81), (81, .iconst 0, 1, 82), (82, .invokevirtual 93, 3, 85), (85, .iload_n 2, 1, 86), (86, .invokevirtual 271, 3, 89), (89, .ireturn, 1, 90)]
theorem jd_Top_fitsUntied : qm_D prog_1_method_43_code jl_Top_fitsUntied := qm_D_of (by decide +kernel)
noncomputable def jf_Top_fitsUntied (this : Nat) (p1 : Int32) (p2 : Int32) (p3 : Int32) : qm_M Int32 :=
  mB (α := Unit) (
    mW (S := Int32) (α := Unit) (fun s2 =>
      mB (mGt (qm_rf this 0) 0) fun x3 =>
      if x3 ≤ s2 then
        mP (Sum.inr ())
      else
        mB (mP ((p3 >>> (s2 &&& 31)) &&& 1)) fun x4 =>
        mB (α := Int32) (
          if ¬ x4 = 1 then
            mB (jf_Run_cell (qm_rf this 0) s2 4) fun x6 =>
            mP x6
          else
            mP 0) fun s5 =>
        mB (jf_Run_putCell (qm_rf (qm_rf this 7) 0) s2 4 s5) fun _ =>
        mB (mP (s2 + 1)) fun x7 =>
        mP (Sum.inl x7)) 0) fun s1 =>
  mB (jf_Press_mark (qm_rf this 7)) fun _ =>
  mB (jf_Run_setting (qm_rf this 0) 0) fun x8 =>
  mB (jf_Fitter_fitsAll (qm_rf (qm_rf this 7) 2) p1 x8 p2) fun x9 =>
  mB (mZ x9) fun x10 => mP x10
set_option maxRecDepth 20000 in
set_option maxHeartbeats 4000000 in
theorem jb_Top_fitsUntied {X : qm_X} (hX : qm_ok X qr_Top prog_1_method_43_code 6 4 102 jl_Top_fitsUntied) {r0 : Int32} {σ0 : qm_Mem} (hR : qm_RI X r0 σ0 .boolean) (this : Nat) (p1 : Int32) (p2 : Int32) (p3 : Int32) (hthis : (qm_kd this).1 = 18) : qm_B X (jf_Top_fitsUntied this p1 p2 p3) 0 [some (.ref (qx_ad X this)), some (.int p1), some (.int p2), some (.int p3), none, none] [] (fun r σ1 => r = r0 ∧ σ1 = σ0) := by
  unfold jf_Top_fitsUntied
  refine qb_iconst hX 0 0 rfl (by decide) ?_
  refine qb_istore hX 1 ([some (.ref (qx_ad X this)), some (.int p1), some (.int p2), some (.int p3), some (.int 0), none]) rfl (by decide) rfl ?_
  refine qb_join 62 (fun s1 => [some (.ref (qx_ad X this)), some (.int p1), some (.int p2), none, none, none]) (fun s1 => []) ?_ ?_
  ·
    refine qb_loopw (0) (fun s2 => [some (.ref (qx_ad X this)), some (.int p1), some (.int p2), some (.int p3), some (.int s2), none]) (qw_s (qw_s (qw_s (qw_s (qw_s (qw_n (qw_0))))))) (fun s2 => ?_)
    refine qb_iload hX 2 rfl rfl ?_
    refine qb_aload_n hX 3 rfl rfl ?_
    refine qb_getR hX 4 rfl fl_Top_12 hthis rfl ?_
    refine qb_get hX 5 rfl fl_Top_122 (kf_Top_0 hthis) rfl (fun x3 => ?_)
    refine qb_icge hX 6 62 rfl (by decide) ?_ ?_
    ·
      exact qb_exit (fun σ h => qj_wk (ρ' := [some (.ref (qx_ad X this)), some (.int p1), some (.int p2), none, none, none]) (qw_s (qw_s (qw_s (qw_n (qw_n (qw_n (qw_0))))))) h)
    ·
      refine qb_iload_n hX 7 rfl rfl ?_
      refine qb_iload hX 8 rfl rfl ?_
      refine qb_ishr hX 9 rfl ?_
      refine qb_iconst hX 10 1 rfl (by decide) ?_
      refine qb_iand hX 11 rfl ?_
      refine qb_istoreL hX 12 (fun x4 => [some (.ref (qx_ad X this)), some (.int p1), some (.int p2), some (.int p3), some (.int s2), some (.int x4)]) rfl (by decide) (fun _ => rfl) (fun x4 => ?_)
      refine qb_aload_n hX 13 rfl rfl ?_
      refine qb_getR hX 14 rfl fl_Top_52 hthis rfl ?_
      refine qb_getR hX 15 rfl fl_Top_287 (kf_Top_7 hthis) rfl ?_
      refine qb_iload hX 16 rfl rfl ?_
      refine qb_iconst hX 17 4 rfl (by decide) ?_
      refine qb_iload hX 18 rfl rfl ?_
      refine qb_iconst hX 19 1 rfl (by decide) ?_
      refine qb_join 53 (fun s5 => [some (.ref (qx_ad X this)), some (.int p1), some (.int p2), some (.int p3), some (.int s2), none]) (fun s5 => [.int s5, .int 4, .int s2, .ref (qx_ad X (qm_rf (qm_rf this 7) 0))]) ?_ ?_
      ·
        refine qb_icne hX 20 43 rfl (by decide) ?_ ?_
        ·
          refine qb_aload_n hX 23 rfl rfl ?_
          refine qb_getR hX 24 rfl fl_Top_12 hthis rfl ?_
          refine qb_iload hX 25 rfl rfl ?_
          refine qb_iconst hX 26 4 rfl (by decide) ?_
          refine qb_callI hX 27 rfl cv_Top_108 (jm_Run_cell (qk_GI hX) (qm_rf this 0) s2 4 (kf_Top_0 hthis) ) (ci := 4) (kf_Top_0 hthis) ⟨rfl, rfl, rfl, by decide, by decide⟩ rfl (by exact Nat.le_of_ble_eq_true rfl) (fun x6 => ?_)
          exact qb_exit (fun σ h => qj_wk (ρ' := [some (.ref (qx_ad X this)), some (.int p1), some (.int p2), some (.int p3), some (.int s2), none]) (qw_s (qw_s (qw_s (qw_s (qw_s (qw_n (qw_0))))))) h)
        ·
          refine qb_iconst hX 21 0 rfl (by decide) ?_
          exact qb_exit (fun σ h => qj_goto hX 22 rfl (by decide) (qj_wk (ρ' := [some (.ref (qx_ad X this)), some (.int p1), some (.int p2), some (.int p3), some (.int s2), none]) (qw_s (qw_s (qw_s (qw_s (qw_s (qw_n (qw_0))))))) h))
      · intro s5
        refine qb_callV hX 28 rfl cv_Top_112 (jm_Run_putCell (qk_GI hX) (qm_rf (qm_rf this 7) 0) s2 4 s5 (kf_Press_0 (kf_Top_7 hthis)) ) (ci := 4) (kf_Press_0 (kf_Top_7 hthis)) ⟨rfl, rfl, rfl, by decide, by decide⟩ rfl (by exact Nat.le_of_ble_eq_true rfl) ?_
        refine qb_iinc hX 29 1 (fun x7 => [some (.ref (qx_ad X this)), some (.int p1), some (.int p2), some (.int p3), some (.int x7), none]) rfl (by decide) (by decide) rfl (fun _ => rfl) (fun x7 => ?_)
        exact qb_exit (fun σ h => qj_goto hX 30 rfl (by decide) (qj_wk (ρ' := [some (.ref (qx_ad X this)), some (.int p1), some (.int p2), some (.int p3), some (.int x7), none]) (qw_s (qw_s (qw_s (qw_s (qw_s (qw_n (qw_0))))))) h))
  · intro s1
    refine qb_aload_n hX 31 rfl rfl ?_
    refine qb_getR hX 32 rfl fl_Top_52 hthis rfl ?_
    refine qb_callV hX 33 rfl cv_Top_337 (jm_Press_mark (qk_GI hX) (qm_rf this 7)  (kf_Top_7 hthis) ) (ci := 3) (kf_Top_7 hthis) ⟨rfl, rfl, rfl, by decide, by decide⟩ rfl (by exact Nat.le_of_ble_eq_true rfl) ?_
    refine qb_aload_n hX 34 rfl rfl ?_
    refine qb_getR hX 35 rfl fl_Top_52 hthis rfl ?_
    refine qb_getR hX 36 rfl fl_Top_267 (kf_Top_7 hthis) rfl ?_
    refine qb_iload_n hX 37 rfl rfl ?_
    refine qb_aload_n hX 38 rfl rfl ?_
    refine qb_getR hX 39 rfl fl_Top_12 hthis rfl ?_
    refine qb_iconst hX 40 0 rfl (by decide) ?_
    refine qb_callI hX 41 rfl cv_Top_93 (jm_Run_setting (qk_GI hX) (qm_rf this 0) 0 (kf_Top_0 hthis) ) (ci := 4) (kf_Top_0 hthis) ⟨rfl, rfl, rfl, by decide, by decide⟩ rfl (by exact Nat.le_of_ble_eq_true rfl) (fun x8 => ?_)
    refine qb_iload_n hX 42 rfl rfl ?_
    refine qb_callI hX 43 rfl cv_Top_271 (jm_Fitter_fitsAll (qk_GI hX) (qm_rf (qm_rf this 7) 2) p1 x8 p2 (kf_Press_2 (kf_Top_7 hthis)) ) (ci := 0) (kf_Press_2 (kf_Top_7 hthis)) ⟨rfl, rfl, rfl, by decide, by decide⟩ rfl (by exact Nat.le_of_ble_eq_true rfl) (fun x9 => ?_)
    exact qb_zret hX 44 (a := fun x10 => x10) rfl hR (fun _ h => h)
theorem jm_Top_fitsUntied {l : Launch} {G : qm_G} (hG : qm_GI G) (this : Nat) (p1 : Int32) (p2 : Int32) (p3 : Int32) (hthis : (qm_kd this).1 = 18) : qm_MI l G jy_Top_fitsUntied prog_1_method_43_code 6 (some .boolean) 4 102 [.ref (G.1 this), .int p1, .int p2, .int p3] (jf_Top_fitsUntied this p1 p2 p3) :=
  qm_metI (by decide +kernel) jd_Top_fitsUntied (fun v hv => by simp only [List.mem_cons, List.not_mem_nil, or_false] at hv; rcases hv with rfl | rfl | rfl | rfl <;> rfl) (by exact Nat.le_of_ble_eq_true rfl) hG rfl (fun X hl hg hX r0 σ0 hR => by subst hl; subst hg; exact jb_Top_fitsUntied hX hR this p1 p2 p3 hthis)
def jl_Top_untiedBy : List qm_I := [(0, .iconst 0, 1, 1), (1, .istore 5, 2, 3), (3, .iconst 0, 1, 4), (4, .istore 6, 2, 6), (6, .iload 6, 2, 8), (8, .sipush 256, 3, 11), (11, .if_icmp .ge 41, 3, 14), (14, .iload 5, 2, 16), (16, .invokestatic 306, 3, 19), (19, .iload 4, 2, 21), (21, .if_icmp .ne 17, 3, 24), (24, .aload_n 0, 1, 25), (25, .iload_n 1, 1, 26), (26, .iload_n 2, 1, 27), (27, .iload 5, 2, 29), (29, .invokevirtual 303, 3, 32), (32, .ifCond .eq 6, 3, 35), (35, .iload 5, 2, 37), (37, .ireturn, 1, 38), (38, .iload 5, 2, 40), (40, .iload_n 3, 1, 41), (41, .isub, 1, 42), (42, .iload_n 3, 1, 43), (43, .iand, 1, 44), (44, .istore 5, 2, 46), (46, .iinc 6 1, 3, 49), (49, .goto (-43), 3, 52), (52, .bipush (-2), 2, 54), (54, .ireturn, 1, 55)]
theorem jd_Top_untiedBy : qm_D prog_1_method_42_code jl_Top_untiedBy := qm_D_of (by decide +kernel)
noncomputable def jf_Top_untiedBy (this : Nat) (p1 : Int32) (p2 : Int32) (p3 : Int32) (p4 : Int32) : qm_M Int32 :=
  mB (α := (Unit ⊕ Int32)) (
    mW (S := Int32 × Int32) (α := (Unit ⊕ Int32)) (fun s2 =>
      if 256 ≤ s2.2 then
        mP (Sum.inr (Sum.inl ()))
      else
        mB (jf_Integer_bitCount s2.1) fun x3 =>
        mB (α := (Unit ⊕ ((Int32 × Int32) ⊕ (Unit ⊕ Int32)))) (
          if ¬ x3 = p4 then
            mP (Sum.inl ())
          else
            mB (jf_Top_fitsUntied this p1 p2 s2.1) fun x5 =>
            if x5 = 0 then
              mP (Sum.inl ())
            else
              mP (Sum.inr (Sum.inr (Sum.inr s2.1)))) (Sum.elim (fun s4 =>
          mB (mP ((s2.1 - p3) &&& p3)) fun x6 =>
          mB (mP (s2.2 + 1)) fun x7 =>
          mP (Sum.inl (x6, x7))) mP)) (0, 0)) (Sum.elim (fun s1 =>
    mP (-2)) mP)
set_option maxRecDepth 20000 in
set_option maxHeartbeats 4000000 in
theorem jb_Top_untiedBy {X : qm_X} (hX : qm_ok X qr_Top prog_1_method_42_code 7 5 127 jl_Top_untiedBy) {r0 : Int32} {σ0 : qm_Mem} (hR : qm_RI X r0 σ0 .int) (this : Nat) (p1 : Int32) (p2 : Int32) (p3 : Int32) (p4 : Int32) (hthis : (qm_kd this).1 = 18) : qm_B X (jf_Top_untiedBy this p1 p2 p3 p4) 0 [some (.ref (qx_ad X this)), some (.int p1), some (.int p2), some (.int p3), some (.int p4), none, none] [] (fun r σ1 => r = r0 ∧ σ1 = σ0) := by
  unfold jf_Top_untiedBy
  refine qb_iconst hX 0 0 rfl (by decide) ?_
  refine qb_istore hX 1 ([some (.ref (qx_ad X this)), some (.int p1), some (.int p2), some (.int p3), some (.int p4), some (.int 0), none]) rfl (by decide) rfl ?_
  refine qb_iconst hX 2 0 rfl (by decide) ?_
  refine qb_istore hX 3 ([some (.ref (qx_ad X this)), some (.int p1), some (.int p2), some (.int p3), some (.int p4), some (.int 0), some (.int 0)]) rfl (by decide) rfl ?_
  refine qb_join2 52 (fun s1 => [none, none, none, none, none, none, none]) (fun s1 => []) ?_ ?_
  ·
    refine qb_loopw ((0, 0)) (fun s2 => [some (.ref (qx_ad X this)), some (.int p1), some (.int p2), some (.int p3), some (.int p4), some (.int s2.1), some (.int s2.2)]) (qw_s (qw_s (qw_s (qw_s (qw_s (qw_s (qw_s (qw_0)))))))) (fun s2 => ?_)
    refine qb_iload hX 4 rfl rfl ?_
    refine qb_sipush hX 5 256 rfl (by decide) ?_
    refine qb_icge hX 6 52 rfl (by decide) ?_ ?_
    ·
      exact qb_exit (fun σ h => qj_wk (ρ' := [none, none, none, none, none, none, none]) (qw_n (qw_n (qw_n (qw_n (qw_n (qw_n (qw_n (qw_0)))))))) h)
    ·
      refine qb_iload hX 7 rfl rfl ?_
      refine qb_calSI hX 8 rfl cv_Top_306 (jm_Integer_bitCount (qk_GI hX) s2.1 ) ⟨rfl, by decide, by decide⟩ rfl (by exact Nat.le_of_ble_eq_true rfl) (fun x3 => ?_)
      refine qb_iload hX 9 rfl rfl ?_
      refine qb_join2 38 (fun s4 => [some (.ref (qx_ad X this)), some (.int p1), some (.int p2), some (.int p3), some (.int p4), some (.int s2.1), some (.int s2.2)]) (fun s4 => []) ?_ ?_
      ·
        refine qb_icne hX 10 38 rfl (by decide) ?_ ?_
        ·
          exact qb_exit (fun σ h => qj_wk (ρ' := [some (.ref (qx_ad X this)), some (.int p1), some (.int p2), some (.int p3), some (.int p4), some (.int s2.1), some (.int s2.2)]) (qw_s (qw_s (qw_s (qw_s (qw_s (qw_s (qw_s (qw_0)))))))) h)
        ·
          refine qb_aload_n hX 11 rfl rfl ?_
          refine qb_iload_n hX 12 rfl rfl ?_
          refine qb_iload_n hX 13 rfl rfl ?_
          refine qb_iload hX 14 rfl rfl ?_
          refine qb_callI hX 15 rfl cv_Top_303 (jm_Top_fitsUntied (qk_GI hX) this p1 p2 s2.1 hthis ) (ci := 8) hthis ⟨rfl, rfl, rfl, by decide, by decide⟩ rfl (by exact Nat.le_of_ble_eq_true rfl) (fun x5 => ?_)
          refine qb_ifeq hX 16 38 rfl (by decide) ?_ ?_
          ·
            exact qb_exit (fun σ h => qj_wk (ρ' := [some (.ref (qx_ad X this)), some (.int p1), some (.int p2), some (.int p3), some (.int p4), some (.int s2.1), some (.int s2.2)]) (qw_s (qw_s (qw_s (qw_s (qw_s (qw_s (qw_s (qw_0)))))))) h)
          ·
            refine qb_iload hX 17 rfl rfl ?_
            exact qb_iret hX 18 rfl hR (fun _ h => h)
      · intro s4
        refine qb_iload hX 19 rfl rfl ?_
        refine qb_iload_n hX 20 rfl rfl ?_
        refine qb_isub hX 21 rfl ?_
        refine qb_iload_n hX 22 rfl rfl ?_
        refine qb_iand hX 23 rfl ?_
        refine qb_istoreL hX 24 (fun x6 => [some (.ref (qx_ad X this)), some (.int p1), some (.int p2), some (.int p3), some (.int p4), some (.int x6), some (.int s2.2)]) rfl (by decide) (fun _ => rfl) (fun x6 => ?_)
        refine qb_iinc hX 25 1 (fun x7 => [some (.ref (qx_ad X this)), some (.int p1), some (.int p2), some (.int p3), some (.int p4), some (.int x6), some (.int x7)]) rfl (by decide) (by decide) rfl (fun _ => rfl) (fun x7 => ?_)
        exact qb_exit (fun σ h => qj_goto hX 26 rfl (by decide) (qj_wk (ρ' := [some (.ref (qx_ad X this)), some (.int p1), some (.int p2), some (.int p3), some (.int p4), some (.int x6), some (.int x7)]) (qw_s (qw_s (qw_s (qw_s (qw_s (qw_s (qw_s (qw_0)))))))) h))
  · intro s1
    refine qb_bipush hX 27 (-2) rfl (by decide) ?_
    exact qb_iret hX 28 rfl hR (fun _ h => h)
theorem jm_Top_untiedBy {l : Launch} {G : qm_G} (hG : qm_GI G) (this : Nat) (p1 : Int32) (p2 : Int32) (p3 : Int32) (p4 : Int32) (hthis : (qm_kd this).1 = 18) : qm_MI l G jy_Top_untiedBy prog_1_method_42_code 7 (some .int) 5 127 [.ref (G.1 this), .int p1, .int p2, .int p3, .int p4] (jf_Top_untiedBy this p1 p2 p3 p4) :=
  qm_metI (by decide +kernel) jd_Top_untiedBy (fun v hv => by simp only [List.mem_cons, List.not_mem_nil, or_false] at hv; rcases hv with rfl | rfl | rfl | rfl | rfl <;> rfl) (by exact Nat.le_of_ble_eq_true rfl) hG rfl (fun X hl hg hX r0 σ0 hR => by subst hl; subst hg; exact jb_Top_untiedBy hX hR this p1 p2 p3 p4 hthis)
def jl_Top_untie : List qm_I := [(0, .aload_n 0, 1, 1), (1, .iload_n 1, 1, 2), (2, .iload_n 2, 1, 3), (3, .invokevirtual 264, 3, 6), (6, .ifCond .ne 5, 3, 9), (9, .iconst (-1), 1, 10), (10, .ireturn, 1, 11), (11, .aload_n 0, 1, 12), (12, .getfield 52, 3, 15), (15, .getfield 287, 3, 18), (18, .aload_n 0, 1, 19), (19, .getfield 12, 3, 22), (22, .invokevirtual 79, 3, 25), (25, .aload_n 0, 1, 26), (26, .getfield 52, 3, 29), (29, .invokevirtual 288, 3, 32), (32, .aload_n 0, 1, 33), (33, .getfield 52, 3, 36), (36, .getfield 144, 3, 39), (39, .iload_n 1, 1, 40), (40, .invokevirtual 300, 3, 43), (43, .istore_n 3, 1, 44), (44, .aload_n 0, 1, 45), (45, .iload_n 1, 1, 46), (46, .iload_n 2, 1, 47), (47, .iload_n 3, 1, 48), (48, .invokevirtual 303, 3, 51), (51, .ifCond .ne 6, 3, 54), (54, .bipush (-2), 2, 56), (56, .ireturn, 1, 57), (57, .iload_n 3, 1, 58), (58, .invokestatic 306, 3, 61), (61, .istore 4, 2, 63), (63, .iconst 0, 1, 64), (64, .istore 5, 2, 66), (66, .iload 5, 2, 68), (68, .iload 4, 2, 70), (70, .if_icmp .ge 30, 3, 73), (73, .aload_n 0, 1, 74), (74, .iload_n 1, 1, 75), (75, .iload_n 2, 1, 76), (76, .iload_n 3, 1, 77), (77, .iload 5, 2, 79), (79, .invokevirtual 311, 3, 82), (82, .istore 6, 2, 84), (84, .iload 6, 2, 86), (86, .bipush (-2), 2, 88), (88, .if_icmp .eq 6, 3, 91), (91, .iload 6, 2, 93), (93, .ireturn, 1, 94), (94, .iinc 5 1, 3, 97), (97, .goto (-31), 3, 100), (100, .iload_n 3, 1, 101), (101, .ireturn, 1, 102)]
theorem jd_Top_untie : qm_D prog_1_method_32_code jl_Top_untie := qm_D_of (by decide +kernel)
noncomputable def jf_Top_untie (this : Nat) (p1 : Int32) (p2 : Int32) : qm_M Int32 :=
  mB (jf_Top_asks this p1 p2) fun x1 =>
  if ¬ x1 = 0 then
    mB (jf_Run_copyFrom (qm_rf (qm_rf this 7) 0) (qm_rf this 0)) fun _ =>
    mB (jf_Press_lay (qm_rf this 7)) fun _ =>
    mB (jf_Flow_tiesIn (qm_rf (qm_rf this 7) 1) p1) fun x2 =>
    mB (jf_Top_fitsUntied this p1 p2 x2) fun x3 =>
    if ¬ x3 = 0 then
      mB (jf_Integer_bitCount x2) fun x4 =>
      mB (α := (Unit ⊕ Int32)) (
        mW (S := Int32) (α := (Unit ⊕ Int32)) (fun s6 =>
          if x4 ≤ s6 then
            mP (Sum.inr (Sum.inl ()))
          else
            mB (jf_Top_untiedBy this p1 p2 x2 s6) fun x7 =>
            if x7 = (-2) then
              mB (mP (s6 + 1)) fun x8 =>
              mP (Sum.inl x8)
            else
              mP (Sum.inr (Sum.inr x7))) 0) (Sum.elim (fun s5 =>
        mP x2) mP)
    else
      mP (-2)
  else
    mP (-1)
set_option maxRecDepth 20000 in
set_option maxHeartbeats 4000000 in
theorem jb_Top_untie {X : qm_X} (hX : qm_ok X qr_Top prog_1_method_32_code 7 7 156 jl_Top_untie) {r0 : Int32} {σ0 : qm_Mem} (hR : qm_RI X r0 σ0 .int) (this : Nat) (p1 : Int32) (p2 : Int32) (hthis : (qm_kd this).1 = 18) : qm_B X (jf_Top_untie this p1 p2) 0 [some (.ref (qx_ad X this)), some (.int p1), some (.int p2), none, none, none, none] [] (fun r σ1 => r = r0 ∧ σ1 = σ0) := by
  unfold jf_Top_untie
  refine qb_aload_n hX 0 rfl rfl ?_
  refine qb_iload_n hX 1 rfl rfl ?_
  refine qb_iload_n hX 2 rfl rfl ?_
  refine qb_callI hX 3 rfl cv_Top_264 (jm_Top_asks (qk_GI hX) this p1 p2 hthis ) (ci := 8) hthis ⟨rfl, rfl, rfl, by decide, by decide⟩ rfl (by exact Nat.le_of_ble_eq_true rfl) (fun x1 => ?_)
  refine qb_ifne hX 4 11 rfl (by decide) ?_ ?_
  ·
    refine qb_aload_n hX 7 rfl rfl ?_
    refine qb_getR hX 8 rfl fl_Top_52 hthis rfl ?_
    refine qb_getR hX 9 rfl fl_Top_287 (kf_Top_7 hthis) rfl ?_
    refine qb_aload_n hX 10 rfl rfl ?_
    refine qb_getR hX 11 rfl fl_Top_12 hthis rfl ?_
    refine qb_callV hX 12 rfl cv_Top_79 (jm_Run_copyFrom (qk_GI hX) (qm_rf (qm_rf this 7) 0) (qm_rf this 0) (kf_Press_0 (kf_Top_7 hthis)) (kf_Top_0 hthis)) (ci := 4) (kf_Press_0 (kf_Top_7 hthis)) ⟨rfl, rfl, rfl, by decide, by decide⟩ rfl (by exact Nat.le_of_ble_eq_true rfl) ?_
    refine qb_aload_n hX 13 rfl rfl ?_
    refine qb_getR hX 14 rfl fl_Top_52 hthis rfl ?_
    refine qb_callV hX 15 rfl cv_Top_288 (jm_Press_lay (qk_GI hX) (qm_rf this 7)  (kf_Top_7 hthis) ) (ci := 3) (kf_Top_7 hthis) ⟨rfl, rfl, rfl, by decide, by decide⟩ rfl (by exact Nat.le_of_ble_eq_true rfl) ?_
    refine qb_aload_n hX 16 rfl rfl ?_
    refine qb_getR hX 17 rfl fl_Top_52 hthis rfl ?_
    refine qb_getR hX 18 rfl fl_Top_144 (kf_Top_7 hthis) rfl ?_
    refine qb_iload_n hX 19 rfl rfl ?_
    refine qb_callI hX 20 rfl cv_Top_300 (jm_Flow_tiesIn (qk_GI hX) (qm_rf (qm_rf this 7) 1) p1 (kf_Press_1 (kf_Top_7 hthis)) ) (ci := 1) (kf_Press_1 (kf_Top_7 hthis)) ⟨rfl, rfl, rfl, by decide, by decide⟩ rfl (by exact Nat.le_of_ble_eq_true rfl) (fun x2 => ?_)
    refine qb_istore_n hX 21 ([some (.ref (qx_ad X this)), some (.int p1), some (.int p2), some (.int x2), none, none, none]) rfl (by decide) rfl ?_
    refine qb_aload_n hX 22 rfl rfl ?_
    refine qb_iload_n hX 23 rfl rfl ?_
    refine qb_iload_n hX 24 rfl rfl ?_
    refine qb_iload_n hX 25 rfl rfl ?_
    refine qb_callI hX 26 rfl cv_Top_303 (jm_Top_fitsUntied (qk_GI hX) this p1 p2 x2 hthis ) (ci := 8) hthis ⟨rfl, rfl, rfl, by decide, by decide⟩ rfl (by exact Nat.le_of_ble_eq_true rfl) (fun x3 => ?_)
    refine qb_ifne hX 27 57 rfl (by decide) ?_ ?_
    ·
      refine qb_iload_n hX 30 rfl rfl ?_
      refine qb_calSI hX 31 rfl cv_Top_306 (jm_Integer_bitCount (qk_GI hX) x2 ) ⟨rfl, by decide, by decide⟩ rfl (by exact Nat.le_of_ble_eq_true rfl) (fun x4 => ?_)
      refine qb_istore hX 32 ([some (.ref (qx_ad X this)), some (.int p1), some (.int p2), some (.int x2), some (.int x4), none, none]) rfl (by decide) rfl ?_
      refine qb_iconst hX 33 0 rfl (by decide) ?_
      refine qb_istore hX 34 ([some (.ref (qx_ad X this)), some (.int p1), some (.int p2), some (.int x2), some (.int x4), some (.int 0), none]) rfl (by decide) rfl ?_
      refine qb_join2 100 (fun s5 => [none, none, none, some (.int x2), none, none, none]) (fun s5 => []) ?_ ?_
      ·
        refine qb_loopw (0) (fun s6 => [some (.ref (qx_ad X this)), some (.int p1), some (.int p2), some (.int x2), some (.int x4), some (.int s6), none]) (qw_s (qw_s (qw_s (qw_s (qw_s (qw_s (qw_n (qw_0)))))))) (fun s6 => ?_)
        refine qb_iload hX 35 rfl rfl ?_
        refine qb_iload hX 36 rfl rfl ?_
        refine qb_icge hX 37 100 rfl (by decide) ?_ ?_
        ·
          exact qb_exit (fun σ h => qj_wk (ρ' := [none, none, none, some (.int x2), none, none, none]) (qw_n (qw_n (qw_n (qw_s (qw_n (qw_n (qw_n (qw_0)))))))) h)
        ·
          refine qb_aload_n hX 38 rfl rfl ?_
          refine qb_iload_n hX 39 rfl rfl ?_
          refine qb_iload_n hX 40 rfl rfl ?_
          refine qb_iload_n hX 41 rfl rfl ?_
          refine qb_iload hX 42 rfl rfl ?_
          refine qb_callI hX 43 rfl cv_Top_311 (jm_Top_untiedBy (qk_GI hX) this p1 p2 x2 s6 hthis ) (ci := 8) hthis ⟨rfl, rfl, rfl, by decide, by decide⟩ rfl (by exact Nat.le_of_ble_eq_true rfl) (fun x7 => ?_)
          refine qb_istore hX 44 ([some (.ref (qx_ad X this)), some (.int p1), some (.int p2), some (.int x2), some (.int x4), some (.int s6), some (.int x7)]) rfl (by decide) rfl ?_
          refine qb_iload hX 45 rfl rfl ?_
          refine qb_bipush hX 46 (-2) rfl (by decide) ?_
          refine qb_iceq hX 47 94 rfl (by decide) ?_ ?_
          ·
            refine qb_iinc hX 50 1 (fun x8 => [some (.ref (qx_ad X this)), some (.int p1), some (.int p2), some (.int x2), some (.int x4), some (.int x8), some (.int x7)]) rfl (by decide) (by decide) rfl (fun _ => rfl) (fun x8 => ?_)
            exact qb_exit (fun σ h => qj_goto hX 51 rfl (by decide) (qj_wk (ρ' := [some (.ref (qx_ad X this)), some (.int p1), some (.int p2), some (.int x2), some (.int x4), some (.int x8), none]) (qw_s (qw_s (qw_s (qw_s (qw_s (qw_s (qw_n (qw_0)))))))) h))
          ·
            refine qb_iload hX 48 rfl rfl ?_
            exact qb_iret hX 49 rfl hR (fun _ h => h)
      · intro s5
        refine qb_iload_n hX 52 rfl rfl ?_
        exact qb_iret hX 53 rfl hR (fun _ h => h)
    ·
      refine qb_bipush hX 28 (-2) rfl (by decide) ?_
      exact qb_iret hX 29 rfl hR (fun _ h => h)
  ·
    refine qb_iconst hX 5 (-1) rfl (by decide) ?_
    exact qb_iret hX 6 rfl hR (fun _ h => h)
theorem jm_Top_untie {l : Launch} {G : qm_G} (hG : qm_GI G) (this : Nat) (p1 : Int32) (p2 : Int32) (hthis : (qm_kd this).1 = 18) : qm_MI l G jy_Top_untie prog_1_method_32_code 7 (some .int) 7 156 [.ref (G.1 this), .int p1, .int p2] (jf_Top_untie this p1 p2) :=
  qm_metI (by decide +kernel) jd_Top_untie (fun v hv => by simp only [List.mem_cons, List.not_mem_nil, or_false] at hv; rcases hv with rfl | rfl | rfl <;> rfl) (by exact Nat.le_of_ble_eq_true rfl) hG rfl (fun X hl hg hX r0 σ0 hR => by subst hl; subst hg; exact jb_Top_untie hX hR this p1 p2 hthis)
def jl_Top_trial : List qm_I := [(0, .iload_n 1, 1, 1), (1, .iload_n 2, 1, 2), (2, .invokestatic 89, 3, 5), (5, .ifCond .ne 5, 3, 8), (8, .iconst (-1), 1, 9), (9, .ireturn, 1, 10), (10, .aload_n 0, 1, 11), (11, .getfield 52, 3, 14), (14, .getfield 287, 3, 17), (17, .aload_n 0, 1, 18), (18, .getfield 12, 3, 21), (21, .invokevirtual 79, 3, 24), (24, .aload_n 0, 1, 25), (25, .getfield 52, 3, 28), (28, .getfield 287, 3, 31), (31, .iload_n 1, 1, 32), (32, .iload_n 2, 1, 33), (33, .invokevirtual 100, 3, 36), (36, .aload_n 0, 1, 37), (37, .getfield 52, 3, 40), (40, .invokevirtual 288, 3, 43), (43, .aload_n 0, 1, 44), (44, .getfield 52, 3, 47), (47, .invokevirtual 315, 3, 50), (50, .ireturn, 1, 51)]
theorem jd_Top_trial : qm_D prog_1_method_33_code jl_Top_trial := qm_D_of (by decide +kernel)
noncomputable def jf_Top_trial (this : Nat) (p1 : Int32) (p2 : Int32) : qm_M Int32 :=
  mB (jf_Run_takes p1 p2) fun x1 =>
  if ¬ x1 = 0 then
    mB (jf_Run_copyFrom (qm_rf (qm_rf this 7) 0) (qm_rf this 0)) fun _ =>
    mB (jf_Run_put (qm_rf (qm_rf this 7) 0) p1 p2) fun _ =>
    mB (jf_Press_lay (qm_rf this 7)) fun _ =>
    mB (jf_Press_pourAll (qm_rf this 7)) fun x2 =>
    mP x2
  else
    mP (-1)
set_option maxRecDepth 20000 in
set_option maxHeartbeats 4000000 in
theorem jb_Top_trial {X : qm_X} (hX : qm_ok X qr_Top prog_1_method_33_code 3 6 154 jl_Top_trial) {r0 : Int32} {σ0 : qm_Mem} (hR : qm_RI X r0 σ0 .int) (this : Nat) (p1 : Int32) (p2 : Int32) (hthis : (qm_kd this).1 = 18) : qm_B X (jf_Top_trial this p1 p2) 0 [some (.ref (qx_ad X this)), some (.int p1), some (.int p2)] [] (fun r σ1 => r = r0 ∧ σ1 = σ0) := by
  unfold jf_Top_trial
  refine qb_iload_n hX 0 rfl rfl ?_
  refine qb_iload_n hX 1 rfl rfl ?_
  refine qb_calSI hX 2 rfl cv_Top_89 (jm_Run_takes (qk_GI hX) p1 p2 ) ⟨rfl, by decide, by decide⟩ rfl (by exact Nat.le_of_ble_eq_true rfl) (fun x1 => ?_)
  refine qb_ifne hX 3 10 rfl (by decide) ?_ ?_
  ·
    refine qb_aload_n hX 6 rfl rfl ?_
    refine qb_getR hX 7 rfl fl_Top_52 hthis rfl ?_
    refine qb_getR hX 8 rfl fl_Top_287 (kf_Top_7 hthis) rfl ?_
    refine qb_aload_n hX 9 rfl rfl ?_
    refine qb_getR hX 10 rfl fl_Top_12 hthis rfl ?_
    refine qb_callV hX 11 rfl cv_Top_79 (jm_Run_copyFrom (qk_GI hX) (qm_rf (qm_rf this 7) 0) (qm_rf this 0) (kf_Press_0 (kf_Top_7 hthis)) (kf_Top_0 hthis)) (ci := 4) (kf_Press_0 (kf_Top_7 hthis)) ⟨rfl, rfl, rfl, by decide, by decide⟩ rfl (by exact Nat.le_of_ble_eq_true rfl) ?_
    refine qb_aload_n hX 12 rfl rfl ?_
    refine qb_getR hX 13 rfl fl_Top_52 hthis rfl ?_
    refine qb_getR hX 14 rfl fl_Top_287 (kf_Top_7 hthis) rfl ?_
    refine qb_iload_n hX 15 rfl rfl ?_
    refine qb_iload_n hX 16 rfl rfl ?_
    refine qb_callV hX 17 rfl cv_Top_100 (jm_Run_put (qk_GI hX) (qm_rf (qm_rf this 7) 0) p1 p2 (kf_Press_0 (kf_Top_7 hthis)) ) (ci := 4) (kf_Press_0 (kf_Top_7 hthis)) ⟨rfl, rfl, rfl, by decide, by decide⟩ rfl (by exact Nat.le_of_ble_eq_true rfl) ?_
    refine qb_aload_n hX 18 rfl rfl ?_
    refine qb_getR hX 19 rfl fl_Top_52 hthis rfl ?_
    refine qb_callV hX 20 rfl cv_Top_288 (jm_Press_lay (qk_GI hX) (qm_rf this 7)  (kf_Top_7 hthis) ) (ci := 3) (kf_Top_7 hthis) ⟨rfl, rfl, rfl, by decide, by decide⟩ rfl (by exact Nat.le_of_ble_eq_true rfl) ?_
    refine qb_aload_n hX 21 rfl rfl ?_
    refine qb_getR hX 22 rfl fl_Top_52 hthis rfl ?_
    refine qb_callI hX 23 rfl cv_Top_315 (jm_Press_pourAll (qk_GI hX) (qm_rf this 7)  (kf_Top_7 hthis) ) (ci := 3) (kf_Top_7 hthis) ⟨rfl, rfl, rfl, by decide, by decide⟩ rfl (by exact Nat.le_of_ble_eq_true rfl) (fun x2 => ?_)
    exact qb_iret hX 24 rfl hR (fun _ h => h)
  ·
    refine qb_iconst hX 4 (-1) rfl (by decide) ?_
    exact qb_iret hX 5 rfl hR (fun _ h => h)
theorem jm_Top_trial {l : Launch} {G : qm_G} (hG : qm_GI G) (this : Nat) (p1 : Int32) (p2 : Int32) (hthis : (qm_kd this).1 = 18) : qm_MI l G jy_Top_trial prog_1_method_33_code 3 (some .int) 6 154 [.ref (G.1 this), .int p1, .int p2] (jf_Top_trial this p1 p2) :=
  qm_metI (by decide +kernel) jd_Top_trial (fun v hv => by simp only [List.mem_cons, List.not_mem_nil, or_false] at hv; rcases hv with rfl | rfl | rfl <;> rfl) (by exact Nat.le_of_ble_eq_true rfl) hG rfl (fun X hl hg hX r0 σ0 hR => by subst hl; subst hg; exact jb_Top_trial hX hR this p1 p2 hthis)
def jl_Top_tall : List qm_I := [(0, .iload_n 1, 1, 1), (1, .ifCond .lt 9, 3, 4), (4, .iload_n 1, 1, 5), (5, .bipush 40, 2, 7), (7, .if_icmp .le 5, 3, 10), (10, .iconst (-1), 1, 11), (11, .ireturn, 1, 12), (12, .aload_n 0, 1, 13), (13, .getfield 52, 3, 16), (16, .getfield 287, 3, 19), (19, .aload_n 0, 1, 20), (20, .getfield 12, 3, 23), (23, .invokevirtual 79, 3, 26), (26, .aload_n 0, 1, 27), (27, .getfield 52, 3, 30), (30, .invokevirtual 288, 3, 33), (33, .getstatic 318, 3, 36), (36, .iconst 1, 1, 37), (37, .iaload, 1, 38), (38, .istore_n 2, 1, 39), (39, .aload_n 0, 1, 40), (40, .getfield 52, 3, 43), (43, .getfield 144, 3, 46), (46, .invokevirtual 321, 3, 49), (49, .istore_n 3, 1, 50), (50, .getstatic 324, 3, 53), (53, .iconst 1, 1, 54), (54, .iaload, 1, 55), (55, .istore 4, 2, 57), (57, .iload 4, 2, 59), (59, .iload_n 2, 1, 60), (60, .if_icmp .gt 62, 3, 63), (63, .iload_n 1, 1, 64), (64, .aload_n 0, 1, 65), (65, .getfield 12, 3, 68), (68, .iconst 0, 1, 69), (69, .invokevirtual 93, 3, 72), (72, .imul, 1, 73), (73, .iload 4, 2, 75), (75, .imul, 1, 76), (76, .iload_n 3, 1, 77), (77, .if_icmp .lt 39, 3, 80), (80, .aload_n 0, 1, 81), (81, .getfield 52, 3, 84), (84, .getfield 287, 3, 87), (87, .iconst 1, 1, 88), (88, .iload 4, 2, 90), (90, .invokevirtual 100, 3, 93), (93, .aload_n 0, 1, 94), (94, .getfield 52, 3, 97), (97, .invokevirtual 315, 3, 100), (100, .istore 5, 2, 102), (102, .iload 5, 2, 104), (104, .ifCond .lt 12, 3, 107), (107, .iload 5, 2, 109), (109, .iload_n 1, 1, 110), (110, .if_icmp .gt 6, 3, 113), (113, .iload 4, 2, 115), (115, .ireturn, 1, 116), (116, .iinc 4 1, 3, 119), (119, .goto (-62), 3, 122), (122, .bipush (-2), 2, 124), (124, .ireturn, 1, 125)]
theorem jd_Top_tall : qm_D prog_1_method_34_code jl_Top_tall := qm_D_of (by decide +kernel)
noncomputable def jf_Top_tall (this : Nat) (p1 : Int32) : qm_M Int32 :=
  if p1 < 0 then
    mP (-1)
  else
    if p1 ≤ 40 then
      mB (jf_Run_copyFrom (qm_rf (qm_rf this 7) 0) (qm_rf this 0)) fun _ =>
      mB (jf_Press_lay (qm_rf this 7)) fun _ =>
      mB (mLd 407 1) fun x1 =>
      mB (jf_Flow_allHeights (qm_rf (qm_rf this 7) 1)) fun x2 =>
      mB (mLd 406 1) fun x3 =>
      mB (α := (Unit ⊕ Int32)) (
        mW (S := Int32) (α := (Unit ⊕ Int32)) (fun s5 =>
          if x1 < s5 then
            mP (Sum.inr (Sum.inl ()))
          else
            mB (jf_Run_setting (qm_rf this 0) 0) fun x6 =>
            mB (α := (Unit ⊕ (Int32 ⊕ (Unit ⊕ Int32)))) (
              if ((p1 * x6) * s5) < x2 then
                mP (Sum.inl ())
              else
                mB (jf_Run_put (qm_rf (qm_rf this 7) 0) 1 s5) fun _ =>
                mB (jf_Press_pourAll (qm_rf this 7)) fun x8 =>
                if x8 < 0 then
                  mP (Sum.inl ())
                else
                  if p1 < x8 then
                    mP (Sum.inl ())
                  else
                    mP (Sum.inr (Sum.inr (Sum.inr s5)))) (Sum.elim (fun s7 =>
              mB (mP (s5 + 1)) fun x9 =>
              mP (Sum.inl x9)) mP)) x3) (Sum.elim (fun s4 =>
        mP (-2)) mP)
    else
      mP (-1)
set_option maxRecDepth 20000 in
set_option maxHeartbeats 4000000 in
theorem jb_Top_tall {X : qm_X} (hX : qm_ok X qr_Top prog_1_method_34_code 6 6 154 jl_Top_tall) {r0 : Int32} {σ0 : qm_Mem} (hR : qm_RI X r0 σ0 .int) (this : Nat) (p1 : Int32) (hthis : (qm_kd this).1 = 18) : qm_B X (jf_Top_tall this p1) 0 [some (.ref (qx_ad X this)), some (.int p1), none, none, none, none] [] (fun r σ1 => r = r0 ∧ σ1 = σ0) := by
  unfold jf_Top_tall
  refine qb_iload_n hX 0 rfl rfl ?_
  refine qb_iflt hX 1 10 rfl (by decide) ?_ ?_
  ·
    refine qb_iconst hX 5 (-1) rfl (by decide) ?_
    exact qb_iret hX 6 rfl hR (fun _ h => h)
  ·
    refine qb_iload_n hX 2 rfl rfl ?_
    refine qb_bipush hX 3 40 rfl (by decide) ?_
    refine qb_icle hX 4 12 rfl (by decide) ?_ ?_
    ·
      refine qb_aload_n hX 7 rfl rfl ?_
      refine qb_getR hX 8 rfl fl_Top_52 hthis rfl ?_
      refine qb_getR hX 9 rfl fl_Top_287 (kf_Top_7 hthis) rfl ?_
      refine qb_aload_n hX 10 rfl rfl ?_
      refine qb_getR hX 11 rfl fl_Top_12 hthis rfl ?_
      refine qb_callV hX 12 rfl cv_Top_79 (jm_Run_copyFrom (qk_GI hX) (qm_rf (qm_rf this 7) 0) (qm_rf this 0) (kf_Press_0 (kf_Top_7 hthis)) (kf_Top_0 hthis)) (ci := 4) (kf_Press_0 (kf_Top_7 hthis)) ⟨rfl, rfl, rfl, by decide, by decide⟩ rfl (by exact Nat.le_of_ble_eq_true rfl) ?_
      refine qb_aload_n hX 13 rfl rfl ?_
      refine qb_getR hX 14 rfl fl_Top_52 hthis rfl ?_
      refine qb_callV hX 15 rfl cv_Top_288 (jm_Press_lay (qk_GI hX) (qm_rf this 7)  (kf_Top_7 hthis) ) (ci := 3) (kf_Top_7 hthis) ⟨rfl, rfl, rfl, by decide, by decide⟩ rfl (by exact Nat.le_of_ble_eq_true rfl) ?_
      refine qb_gets hX 16 (n := "SETTING_MOST") 407 rfl (by decide +kernel) gs_Top_318 ?_
      refine qb_iconst hX 17 1 rfl (by decide) ?_
      refine qb_iald hX 18 rfl (rfl : (qm_kd 407).1 = 1) (fun x1 => ?_)
      refine qb_istore_n hX 19 ([some (.ref (qx_ad X this)), some (.int p1), some (.int x1), none, none, none]) rfl (by decide) rfl ?_
      refine qb_aload_n hX 20 rfl rfl ?_
      refine qb_getR hX 21 rfl fl_Top_52 hthis rfl ?_
      refine qb_getR hX 22 rfl fl_Top_144 (kf_Top_7 hthis) rfl ?_
      refine qb_callI hX 23 rfl cv_Top_321 (jm_Flow_allHeights (qk_GI hX) (qm_rf (qm_rf this 7) 1)  (kf_Press_1 (kf_Top_7 hthis)) ) (ci := 1) (kf_Press_1 (kf_Top_7 hthis)) ⟨rfl, rfl, rfl, by decide, by decide⟩ rfl (by exact Nat.le_of_ble_eq_true rfl) (fun x2 => ?_)
      refine qb_istore_n hX 24 ([some (.ref (qx_ad X this)), some (.int p1), some (.int x1), some (.int x2), none, none]) rfl (by decide) rfl ?_
      refine qb_gets hX 25 (n := "SETTING_LEAST") 406 rfl (by decide +kernel) gs_Top_324 ?_
      refine qb_iconst hX 26 1 rfl (by decide) ?_
      refine qb_iald hX 27 rfl (rfl : (qm_kd 406).1 = 1) (fun x3 => ?_)
      refine qb_istore hX 28 ([some (.ref (qx_ad X this)), some (.int p1), some (.int x1), some (.int x2), some (.int x3), none]) rfl (by decide) rfl ?_
      refine qb_join2 122 (fun s4 => [none, none, none, none, none, none]) (fun s4 => []) ?_ ?_
      ·
        refine qb_loopw (x3) (fun s5 => [some (.ref (qx_ad X this)), some (.int p1), some (.int x1), some (.int x2), some (.int s5), none]) (qw_s (qw_s (qw_s (qw_s (qw_s (qw_n (qw_0))))))) (fun s5 => ?_)
        refine qb_iload hX 29 rfl rfl ?_
        refine qb_iload_n hX 30 rfl rfl ?_
        refine qb_icgt hX 31 122 rfl (by decide) ?_ ?_
        ·
          exact qb_exit (fun σ h => qj_wk (ρ' := [none, none, none, none, none, none]) (qw_n (qw_n (qw_n (qw_n (qw_n (qw_n (qw_0))))))) h)
        ·
          refine qb_iload_n hX 32 rfl rfl ?_
          refine qb_aload_n hX 33 rfl rfl ?_
          refine qb_getR hX 34 rfl fl_Top_12 hthis rfl ?_
          refine qb_iconst hX 35 0 rfl (by decide) ?_
          refine qb_callI hX 36 rfl cv_Top_93 (jm_Run_setting (qk_GI hX) (qm_rf this 0) 0 (kf_Top_0 hthis) ) (ci := 4) (kf_Top_0 hthis) ⟨rfl, rfl, rfl, by decide, by decide⟩ rfl (by exact Nat.le_of_ble_eq_true rfl) (fun x6 => ?_)
          refine qb_imul hX 37 rfl ?_
          refine qb_iload hX 38 rfl rfl ?_
          refine qb_imul hX 39 rfl ?_
          refine qb_iload_n hX 40 rfl rfl ?_
          refine qb_join2 116 (fun s7 => [some (.ref (qx_ad X this)), some (.int p1), some (.int x1), some (.int x2), some (.int s5), none]) (fun s7 => []) ?_ ?_
          ·
            refine qb_iclt hX 41 116 rfl (by decide) ?_ ?_
            ·
              exact qb_exit (fun σ h => qj_wk (ρ' := [some (.ref (qx_ad X this)), some (.int p1), some (.int x1), some (.int x2), some (.int s5), none]) (qw_s (qw_s (qw_s (qw_s (qw_s (qw_n (qw_0))))))) h)
            ·
              refine qb_aload_n hX 42 rfl rfl ?_
              refine qb_getR hX 43 rfl fl_Top_52 hthis rfl ?_
              refine qb_getR hX 44 rfl fl_Top_287 (kf_Top_7 hthis) rfl ?_
              refine qb_iconst hX 45 1 rfl (by decide) ?_
              refine qb_iload hX 46 rfl rfl ?_
              refine qb_callV hX 47 rfl cv_Top_100 (jm_Run_put (qk_GI hX) (qm_rf (qm_rf this 7) 0) 1 s5 (kf_Press_0 (kf_Top_7 hthis)) ) (ci := 4) (kf_Press_0 (kf_Top_7 hthis)) ⟨rfl, rfl, rfl, by decide, by decide⟩ rfl (by exact Nat.le_of_ble_eq_true rfl) ?_
              refine qb_aload_n hX 48 rfl rfl ?_
              refine qb_getR hX 49 rfl fl_Top_52 hthis rfl ?_
              refine qb_callI hX 50 rfl cv_Top_315 (jm_Press_pourAll (qk_GI hX) (qm_rf this 7)  (kf_Top_7 hthis) ) (ci := 3) (kf_Top_7 hthis) ⟨rfl, rfl, rfl, by decide, by decide⟩ rfl (by exact Nat.le_of_ble_eq_true rfl) (fun x8 => ?_)
              refine qb_istore hX 51 ([some (.ref (qx_ad X this)), some (.int p1), some (.int x1), some (.int x2), some (.int s5), some (.int x8)]) rfl (by decide) rfl ?_
              refine qb_iload hX 52 rfl rfl ?_
              refine qb_iflt hX 53 116 rfl (by decide) ?_ ?_
              ·
                exact qb_exit (fun σ h => qj_wk (ρ' := [some (.ref (qx_ad X this)), some (.int p1), some (.int x1), some (.int x2), some (.int s5), none]) (qw_s (qw_s (qw_s (qw_s (qw_s (qw_n (qw_0))))))) h)
              ·
                refine qb_iload hX 54 rfl rfl ?_
                refine qb_iload_n hX 55 rfl rfl ?_
                refine qb_icgt hX 56 116 rfl (by decide) ?_ ?_
                ·
                  exact qb_exit (fun σ h => qj_wk (ρ' := [some (.ref (qx_ad X this)), some (.int p1), some (.int x1), some (.int x2), some (.int s5), none]) (qw_s (qw_s (qw_s (qw_s (qw_s (qw_n (qw_0))))))) h)
                ·
                  refine qb_iload hX 57 rfl rfl ?_
                  exact qb_iret hX 58 rfl hR (fun _ h => h)
          · intro s7
            refine qb_iinc hX 59 1 (fun x9 => [some (.ref (qx_ad X this)), some (.int p1), some (.int x1), some (.int x2), some (.int x9), none]) rfl (by decide) (by decide) rfl (fun _ => rfl) (fun x9 => ?_)
            exact qb_exit (fun σ h => qj_goto hX 60 rfl (by decide) (qj_wk (ρ' := [some (.ref (qx_ad X this)), some (.int p1), some (.int x1), some (.int x2), some (.int x9), none]) (qw_s (qw_s (qw_s (qw_s (qw_s (qw_n (qw_0))))))) h))
      · intro s4
        refine qb_bipush hX 61 (-2) rfl (by decide) ?_
        exact qb_iret hX 62 rfl hR (fun _ h => h)
    ·
      refine qb_iconst hX 5 (-1) rfl (by decide) ?_
      exact qb_iret hX 6 rfl hR (fun _ h => h)
theorem jm_Top_tall {l : Launch} {G : qm_G} (hG : qm_GI G) (this : Nat) (p1 : Int32) (hthis : (qm_kd this).1 = 18) : qm_MI l G jy_Top_tall prog_1_method_34_code 6 (some .int) 6 154 [.ref (G.1 this), .int p1] (jf_Top_tall this p1) :=
  qm_metI (by decide +kernel) jd_Top_tall (fun v hv => by simp only [List.mem_cons, List.not_mem_nil, or_false] at hv; rcases hv with rfl | rfl <;> rfl) (by exact Nat.le_of_ble_eq_true rfl) hG rfl (fun X hl hg hX r0 σ0 hR => by subst hl; subst hg; exact jb_Top_tall hX hR this p1 hthis)
def jl_Top_order : List qm_I := [(0, .iload_n 1, 1, 1), (1, .ifCond .lt 8, 3, 4), (4, .iload_n 1, 1, 5), (5, .iconst 1, 1, 6), (6, .if_icmp .le 5, 3, 9), (9, .iconst (-1), 1, 10), (10, .ireturn, 1, 11), (11, .aload_n 0, 1, 12), (12, .getfield 52, 3, 15), (15, .getfield 287, 3, 18), (18, .aload_n 0, 1, 19), (19, .getfield 12, 3, 22), (22, .invokevirtual 79, 3, 25), (25, .bipush (-2), 2, 27), (27, .istore_n 2, 1, 28), (28, .bipush (-2), 2, 30), (30, .istore_n 3, 1, 31), (31, .iconst 0, 1, 32), (32, .istore 4, 2, 34), (34, .iload 4, 2, 36), (36, .iconst 1, 1, 37), (37, .iadd, 1, 38), (38, .aload_n 0, 1, 39), (39, .getfield 12, 3, 42), (42, .getfield 122, 3, 45), (45, .if_icmp .ge 80, 3, 48), (48, .aload_n 0, 1, 49), (49, .getfield 52, 3, 52), (52, .getfield 287, 3, 55), (55, .iload 4, 2, 57), (57, .iload 4, 2, 59), (59, .iconst 1, 1, 60), (60, .iadd, 1, 61), (61, .invokevirtual 119, 3, 64), (64, .aload_n 0, 1, 65), (65, .getfield 52, 3, 68), (68, .invokevirtual 288, 3, 71), (71, .aload_n 0, 1, 72), (72, .getfield 52, 3, 75), (75, .invokevirtual 315, 3, 78), (78, .istore 5, 2, 80), (80, .aload_n 0, 1, 81), (81, .getfield 52, 3, 84), (84, .getfield 287, 3, 87), (87, .iload 4, 2, 89), (89, .iload 4, 2, 91), (91, .iconst 1, 1, 92), (92, .iadd, 1, 93), (93, .invokevirtual 119, 3, 96), (96, .iload 5, 2, 98), (98, .ifCond .lt 21, 3, 101), (101, .iload_n 3, 1, 102), (102, .bipush (-2), 2, 104), (104, .if_icmp .eq 9, 3, 107), (107, .iload 5, 2, 109), (109, .iload_n 3, 1, 110), (110, .if_icmp .ge 9, 3, 113), (113, .iload 5, 2, 115), (115, .istore_n 3, 1, 116), (116, .iload 4, 2, 118), (118, .istore_n 2, 1, 119), (119, .iinc 4 1, 3, 122), (122, .goto (-88), 3, 125), (125, .iload_n 1, 1, 126), (126, .ifCond .ne 7, 3, 129), (129, .iload_n 2, 1, 130), (130, .goto 4, 3, 133), (133, .iload_n 3, 1, 134), (134, .ireturn, 1, 135)]
theorem jd_Top_order : qm_D prog_1_method_35_code jl_Top_order := qm_D_of (by decide +kernel)
noncomputable def jf_Top_order (this : Nat) (p1 : Int32) : qm_M Int32 :=
  if p1 < 0 then
    mP (-1)
  else
    if p1 ≤ 1 then
      mB (jf_Run_copyFrom (qm_rf (qm_rf this 7) 0) (qm_rf this 0)) fun _ =>
      mB (α := Int32 × Int32) (
        mW (S := Int32 × Int32 × Int32) (α := Int32 × Int32) (fun s2 =>
          mB (mGt (qm_rf this 0) 0) fun x3 =>
          if x3 ≤ (s2.2.2 + 1) then
            mP (Sum.inr (s2.1, s2.2.1))
          else
            mB (jf_Run_exchange (qm_rf (qm_rf this 7) 0) s2.2.2 (s2.2.2 + 1)) fun _ =>
            mB (jf_Press_lay (qm_rf this 7)) fun _ =>
            mB (jf_Press_pourAll (qm_rf this 7)) fun x4 =>
            mB (jf_Run_exchange (qm_rf (qm_rf this 7) 0) s2.2.2 (s2.2.2 + 1)) fun _ =>
            mB (α := Int32 × Int32) (
              if x4 < 0 then
                mP (s2.1, s2.2.1)
              else
                mB (α := (Unit ⊕ (Int32 × Int32))) (
                  if s2.2.1 = (-2) then
                    mP (Sum.inl ())
                  else
                    if s2.2.1 ≤ x4 then
                      mP (Sum.inr (s2.1, s2.2.1))
                    else
                      mP (Sum.inl ())) (Sum.elim (fun s6 =>
                  mP (s2.2.2, x4)) mP)) fun s5 =>
            mB (mP (s2.2.2 + 1)) fun x7 =>
            mP (Sum.inl (s5.1, s5.2, x7))) ((-2), (-2), 0)) fun s1 =>
      if ¬ p1 = 0 then
        mP s1.2
      else
        mP s1.1
    else
      mP (-1)
set_option maxRecDepth 20000 in
set_option maxHeartbeats 4000000 in
theorem jb_Top_order {X : qm_X} (hX : qm_ok X qr_Top prog_1_method_35_code 6 6 154 jl_Top_order) {r0 : Int32} {σ0 : qm_Mem} (hR : qm_RI X r0 σ0 .int) (this : Nat) (p1 : Int32) (hthis : (qm_kd this).1 = 18) : qm_B X (jf_Top_order this p1) 0 [some (.ref (qx_ad X this)), some (.int p1), none, none, none, none] [] (fun r σ1 => r = r0 ∧ σ1 = σ0) := by
  unfold jf_Top_order
  refine qb_iload_n hX 0 rfl rfl ?_
  refine qb_iflt hX 1 9 rfl (by decide) ?_ ?_
  ·
    refine qb_iconst hX 5 (-1) rfl (by decide) ?_
    exact qb_iret hX 6 rfl hR (fun _ h => h)
  ·
    refine qb_iload_n hX 2 rfl rfl ?_
    refine qb_iconst hX 3 1 rfl (by decide) ?_
    refine qb_icle hX 4 11 rfl (by decide) ?_ ?_
    ·
      refine qb_aload_n hX 7 rfl rfl ?_
      refine qb_getR hX 8 rfl fl_Top_52 hthis rfl ?_
      refine qb_getR hX 9 rfl fl_Top_287 (kf_Top_7 hthis) rfl ?_
      refine qb_aload_n hX 10 rfl rfl ?_
      refine qb_getR hX 11 rfl fl_Top_12 hthis rfl ?_
      refine qb_callV hX 12 rfl cv_Top_79 (jm_Run_copyFrom (qk_GI hX) (qm_rf (qm_rf this 7) 0) (qm_rf this 0) (kf_Press_0 (kf_Top_7 hthis)) (kf_Top_0 hthis)) (ci := 4) (kf_Press_0 (kf_Top_7 hthis)) ⟨rfl, rfl, rfl, by decide, by decide⟩ rfl (by exact Nat.le_of_ble_eq_true rfl) ?_
      refine qb_bipush hX 13 (-2) rfl (by decide) ?_
      refine qb_istore_n hX 14 ([some (.ref (qx_ad X this)), some (.int p1), some (.int (-2)), none, none, none]) rfl (by decide) rfl ?_
      refine qb_bipush hX 15 (-2) rfl (by decide) ?_
      refine qb_istore_n hX 16 ([some (.ref (qx_ad X this)), some (.int p1), some (.int (-2)), some (.int (-2)), none, none]) rfl (by decide) rfl ?_
      refine qb_iconst hX 17 0 rfl (by decide) ?_
      refine qb_istore hX 18 ([some (.ref (qx_ad X this)), some (.int p1), some (.int (-2)), some (.int (-2)), some (.int 0), none]) rfl (by decide) rfl ?_
      refine qb_join 125 (fun s1 => [none, some (.int p1), some (.int s1.1), some (.int s1.2), none, none]) (fun s1 => []) ?_ ?_
      ·
        refine qb_loopw (((-2), (-2), 0)) (fun s2 => [some (.ref (qx_ad X this)), some (.int p1), some (.int s2.1), some (.int s2.2.1), some (.int s2.2.2), none]) (qw_s (qw_s (qw_s (qw_s (qw_s (qw_n (qw_0))))))) (fun s2 => ?_)
        refine qb_iload hX 19 rfl rfl ?_
        refine qb_iconst hX 20 1 rfl (by decide) ?_
        refine qb_iadd hX 21 rfl ?_
        refine qb_aload_n hX 22 rfl rfl ?_
        refine qb_getR hX 23 rfl fl_Top_12 hthis rfl ?_
        refine qb_get hX 24 rfl fl_Top_122 (kf_Top_0 hthis) rfl (fun x3 => ?_)
        refine qb_icge hX 25 125 rfl (by decide) ?_ ?_
        ·
          exact qb_exit (fun σ h => qj_wk (ρ' := [none, some (.int p1), some (.int s2.1), some (.int s2.2.1), none, none]) (qw_n (qw_s (qw_s (qw_s (qw_n (qw_n (qw_0))))))) h)
        ·
          refine qb_aload_n hX 26 rfl rfl ?_
          refine qb_getR hX 27 rfl fl_Top_52 hthis rfl ?_
          refine qb_getR hX 28 rfl fl_Top_287 (kf_Top_7 hthis) rfl ?_
          refine qb_iload hX 29 rfl rfl ?_
          refine qb_iload hX 30 rfl rfl ?_
          refine qb_iconst hX 31 1 rfl (by decide) ?_
          refine qb_iadd hX 32 rfl ?_
          refine qb_callV hX 33 rfl cv_Top_119 (jm_Run_exchange (qk_GI hX) (qm_rf (qm_rf this 7) 0) s2.2.2 (s2.2.2 + 1) (kf_Press_0 (kf_Top_7 hthis)) ) (ci := 4) (kf_Press_0 (kf_Top_7 hthis)) ⟨rfl, rfl, rfl, by decide, by decide⟩ rfl (by exact Nat.le_of_ble_eq_true rfl) ?_
          refine qb_aload_n hX 34 rfl rfl ?_
          refine qb_getR hX 35 rfl fl_Top_52 hthis rfl ?_
          refine qb_callV hX 36 rfl cv_Top_288 (jm_Press_lay (qk_GI hX) (qm_rf this 7)  (kf_Top_7 hthis) ) (ci := 3) (kf_Top_7 hthis) ⟨rfl, rfl, rfl, by decide, by decide⟩ rfl (by exact Nat.le_of_ble_eq_true rfl) ?_
          refine qb_aload_n hX 37 rfl rfl ?_
          refine qb_getR hX 38 rfl fl_Top_52 hthis rfl ?_
          refine qb_callI hX 39 rfl cv_Top_315 (jm_Press_pourAll (qk_GI hX) (qm_rf this 7)  (kf_Top_7 hthis) ) (ci := 3) (kf_Top_7 hthis) ⟨rfl, rfl, rfl, by decide, by decide⟩ rfl (by exact Nat.le_of_ble_eq_true rfl) (fun x4 => ?_)
          refine qb_istore hX 40 ([some (.ref (qx_ad X this)), some (.int p1), some (.int s2.1), some (.int s2.2.1), some (.int s2.2.2), some (.int x4)]) rfl (by decide) rfl ?_
          refine qb_aload_n hX 41 rfl rfl ?_
          refine qb_getR hX 42 rfl fl_Top_52 hthis rfl ?_
          refine qb_getR hX 43 rfl fl_Top_287 (kf_Top_7 hthis) rfl ?_
          refine qb_iload hX 44 rfl rfl ?_
          refine qb_iload hX 45 rfl rfl ?_
          refine qb_iconst hX 46 1 rfl (by decide) ?_
          refine qb_iadd hX 47 rfl ?_
          refine qb_callV hX 48 rfl cv_Top_119 (jm_Run_exchange (qk_GI hX) (qm_rf (qm_rf this 7) 0) s2.2.2 (s2.2.2 + 1) (kf_Press_0 (kf_Top_7 hthis)) ) (ci := 4) (kf_Press_0 (kf_Top_7 hthis)) ⟨rfl, rfl, rfl, by decide, by decide⟩ rfl (by exact Nat.le_of_ble_eq_true rfl) ?_
          refine qb_iload hX 49 rfl rfl ?_
          refine qb_join 119 (fun s5 => [some (.ref (qx_ad X this)), some (.int p1), some (.int s5.1), some (.int s5.2), some (.int s2.2.2), none]) (fun s5 => []) ?_ ?_
          ·
            refine qb_iflt hX 50 119 rfl (by decide) ?_ ?_
            ·
              exact qb_exit (fun σ h => qj_wk (ρ' := [some (.ref (qx_ad X this)), some (.int p1), some (.int s2.1), some (.int s2.2.1), some (.int s2.2.2), none]) (qw_s (qw_s (qw_s (qw_s (qw_s (qw_n (qw_0))))))) h)
            ·
              refine qb_iload_n hX 51 rfl rfl ?_
              refine qb_bipush hX 52 (-2) rfl (by decide) ?_
              refine qb_join2 113 (fun s6 => [some (.ref (qx_ad X this)), some (.int p1), none, none, some (.int s2.2.2), some (.int x4)]) (fun s6 => []) ?_ ?_
              ·
                refine qb_iceq hX 53 113 rfl (by decide) ?_ ?_
                ·
                  exact qb_exit (fun σ h => qj_wk (ρ' := [some (.ref (qx_ad X this)), some (.int p1), none, none, some (.int s2.2.2), some (.int x4)]) (qw_s (qw_s (qw_n (qw_n (qw_s (qw_s (qw_0))))))) h)
                ·
                  refine qb_iload hX 54 rfl rfl ?_
                  refine qb_iload_n hX 55 rfl rfl ?_
                  refine qb_icge hX 56 119 rfl (by decide) ?_ ?_
                  ·
                    exact qb_exit (fun σ h => qj_wk (ρ' := [some (.ref (qx_ad X this)), some (.int p1), some (.int s2.1), some (.int s2.2.1), some (.int s2.2.2), none]) (qw_s (qw_s (qw_s (qw_s (qw_s (qw_n (qw_0))))))) h)
                  ·
                    exact qb_exit (fun σ h => qj_wk (ρ' := [some (.ref (qx_ad X this)), some (.int p1), none, none, some (.int s2.2.2), some (.int x4)]) (qw_s (qw_s (qw_n (qw_n (qw_s (qw_s (qw_0))))))) h)
              · intro s6
                refine qb_iload hX 57 rfl rfl ?_
                refine qb_istore_n hX 58 ([some (.ref (qx_ad X this)), some (.int p1), none, some (.int x4), some (.int s2.2.2), some (.int x4)]) rfl (by decide) rfl ?_
                refine qb_iload hX 59 rfl rfl ?_
                refine qb_istore_n hX 60 ([some (.ref (qx_ad X this)), some (.int p1), some (.int s2.2.2), some (.int x4), some (.int s2.2.2), some (.int x4)]) rfl (by decide) rfl ?_
                exact qb_exit (fun σ h => qj_wk (ρ' := [some (.ref (qx_ad X this)), some (.int p1), some (.int s2.2.2), some (.int x4), some (.int s2.2.2), none]) (qw_s (qw_s (qw_s (qw_s (qw_s (qw_n (qw_0))))))) h)
          · intro s5
            refine qb_iinc hX 61 1 (fun x7 => [some (.ref (qx_ad X this)), some (.int p1), some (.int s5.1), some (.int s5.2), some (.int x7), none]) rfl (by decide) (by decide) rfl (fun _ => rfl) (fun x7 => ?_)
            exact qb_exit (fun σ h => qj_goto hX 62 rfl (by decide) (qj_wk (ρ' := [some (.ref (qx_ad X this)), some (.int p1), some (.int s5.1), some (.int s5.2), some (.int x7), none]) (qw_s (qw_s (qw_s (qw_s (qw_s (qw_n (qw_0))))))) h))
      · intro s1
        refine qb_iload_n hX 63 rfl rfl ?_
        refine qb_ifne hX 64 133 rfl (by decide) ?_ ?_
        ·
          refine qb_iload_n hX 67 rfl rfl ?_
          exact qb_iret hX 68 rfl hR (fun _ h => h)
        ·
          refine qb_iload_n hX 65 rfl rfl ?_
          refine qb_goto hX 66 (tgt := 134) rfl (by decide) ?_
          exact qb_iret hX 68 rfl hR (fun _ h => h)
    ·
      refine qb_iconst hX 5 (-1) rfl (by decide) ?_
      exact qb_iret hX 6 rfl hR (fun _ h => h)
theorem jm_Top_order {l : Launch} {G : qm_G} (hG : qm_GI G) (this : Nat) (p1 : Int32) (hthis : (qm_kd this).1 = 18) : qm_MI l G jy_Top_order prog_1_method_35_code 6 (some .int) 6 154 [.ref (G.1 this), .int p1] (jf_Top_order this p1) :=
  qm_metI (by decide +kernel) jd_Top_order (fun v hv => by simp only [List.mem_cons, List.not_mem_nil, or_false] at hv; rcases hv with rfl | rfl <;> rfl) (by exact Nat.le_of_ble_eq_true rfl) hG rfl (fun X hl hg hX r0 σ0 hR => by subst hl; subst hg; exact jb_Top_order hX hR this p1 hthis)
