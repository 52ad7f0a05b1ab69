def jl_String_init_db425 : List qm_I := [(0, .aload_n 0, 1, 1), (1, .invokespecial 1, 3, 4), (4, .aload_n 1, 1, 5), (5, .invokevirtual 552, 3, 8), (8, .astore_n 3, 1, 9), (9, .aload_n 1, 1, 10), (10, .invokevirtual 549, 3, 13), (13, .istore 4, 2, 15), (15, .aload_n 1, 1, 16), (16, .invokevirtual 1047, 3, 19), (19, .ifCond .eq 22, 3, 22), (22, .aload_n 0, 1, 23), (23, .iconst 0, 1, 24), (24, .putfield 15, 3, 27), (27, .aload_n 0, 1, 28), (28, .aload_n 3, 1, 29), (29, .iconst 0, 1, 30), (30, .iload 4, 2, 32), (32, .invokestatic 54, 3, 35), (35, .putfield 9, 3, 38), (38, .goto 59, 3, 41), (41, .getstatic 38, 3, 44), (44, .ifCond .eq 35, 3, 47), (47, .aload_n 1, 1, 48), (48, .getfield 1048, 3, 51), (51, .ifCond .eq 28, 3, 54), (54, .aload_n 0, 1, 55), (55, .aload_n 3, 1, 56), (56, .iconst 0, 1, 57), (57, .iload 4, 2, 59), (59, .invokestatic 1051, 3, 62), (62, .putfield 9, 3, 65), (65, .aload_n 0, 1, 66), (66, .aload_n 0, 1, 67), (67, .getfield 9, 3, 70), (70, .iload 4, 2, 72), (72, .invokestatic 47, 3, 75), (75, .putfield 15, 3, 78), (78, .return_, 1, 79), (79, .aload_n 0, 1, 80), (80, .iconst 1, 1, 81), (81, .putfield 15, 3, 84), (84, .aload_n 0, 1, 85), (85, .aload_n 3, 1, 86), (86, .iconst 0, 1, 87), (87, .iload 4, 2, 89), (89, .iconst 1, 1, 90), (90, .ishl, 1, 91), (91, .invokestatic 54, 3, 94), (94, .putfield 9, 3, 97), (97, .return_, 1, 98)]
theorem jd_String_init_db425 : qm_D prog_19_method_150_code jl_String_init_db425 := qm_D_of (by decide +kernel)
noncomputable def kf_String_init_db425 (Y : yY) (this : Option Nat) (p1 : Option Nat) (p2 : Option Nat) : yM Unit :=
  yB (yNn this) fun _ =>
  yB (yKr 21 p1 (kf_ASB_getValue Y p1)) fun x1 =>
  yB (yP x1) fun x2 =>
  yB (yKr 21 p1 (kf_SB_length Y p1)) fun x3 =>
  yB (yP x3) fun x4 =>
  yB (yKr 21 p1 (kf_ASB_isLatin1 Y p1)) fun x5 =>
  yB (yR x5) fun _ =>
  if x5 = 0 then
    yB (α := Unit) (
      yB (yR (1 : Int)) fun _ =>
      if (1 : Int) = 0 then
        yP ()
      else
        yB (yGt 21 p1 2) fun x7 =>
        yB (yR x7) fun _ =>
        if x7 = 0 then
          yP ()
        else
          yF) fun s6 =>
    yB (yPz 22 this 1 (1 : Int)) fun _ =>
    yB (yK (kf_Arrays_copyOfRange Y x2 (0 : Int) (ybShl x4 (1 : Int)))) fun x8 =>
    yB (yPr 22 this 0 x8) fun _ =>
    yP ()
  else
    yB (yPz 22 this 1 (0 : Int)) fun _ =>
    yB (yK (kf_Arrays_copyOfRange Y x2 (0 : Int) x4)) fun x9 =>
    yB (yPr 22 this 0 x9) fun _ =>
    yP ()
set_option maxRecDepth 20000 in
set_option maxHeartbeats 4000000 in
theorem kb_String_init_db425 {X : qm_X} {Y : yY} {Fn : yFn} (hX : y_ok X Y Fn "java/lang/String" prog_19_method_150_code 5 3 72 jl_String_init_db425) {w0 : yW} (hR : y_RV X Y Fn w0) (hN : (qx_meth X).name = "<init>") (this : Option Nat) (p1 : Option Nat) (p2 : Option Nat) : yb X Y Fn (kf_String_init_db425 Y this p1 p2) 0 [some (va_rf this), some (va_rf p1), some (va_rf p2), none, none] [] (fun r w1 => r = () ∧ w1 = w0) := by
  unfold kf_String_init_db425
  refine y_aload_n hX 0 rfl rfl ?_
  refine y_objO hX 1 rfl yob_String_1 ⟨by decide, by decide⟩ ?_
  refine y_aload_n hX 2 rfl rfl ?_
  refine y_calR hX y_gRo (y_hrUo hX 3 (t := 11) (As := []) (a := p1) rfl ycw_String_552 (fun p e => by cases e; exact km_ASB_getValue (yk_G hX) p) (by decide) ⟨rfl, rfl, rfl, by decide, by decide⟩ rfl (Nat.le_trans y_cn (by decide))) (fun x1 => ?_)
  refine y_astore_n hX 4 (fun x2 => [some (va_rf this), some (va_rf p1), some (va_rf p2), some (va_rf x2), none]) rfl (by decide) (fun _ => rfl) (fun x2 => ?_)
  refine y_aload_n hX 5 rfl rfl ?_
  refine y_calI hX y_gRo (y_hrUo hX 6 (t := 11) (As := []) (a := p1) rfl ycw_String_549 (fun p e => by cases e; exact km_SB_length (yk_G hX) p) (by decide) ⟨rfl, rfl, rfl, by decide, by decide⟩ rfl (Nat.le_trans y_cn (by decide))) (fun x3 => ?_)
  refine y_istore hX 7 (fun x4 => [some (va_rf this), some (va_rf p1), some (va_rf p2), some (va_rf x2), some (yi x4)]) rfl (by decide) (fun _ => rfl) (fun x4 => ?_)
  refine y_aload_n hX 8 rfl rfl ?_
  refine y_calI hX y_gRo (y_hrUo hX 9 (t := 11) (As := []) (a := p1) rfl ycw_String_1047 (fun p e => by cases e; exact km_ASB_isLatin1 (yk_G hX) p) (by decide) ⟨rfl, rfl, rfl, by decide, by decide⟩ rfl (Nat.le_trans y_cn (by decide))) (fun x5 => ?_)
  refine y_ifeq hX 10 41 rfl (by decide) ?_ ?_
  ·
    refine y_getsC hX 21 rfl ygs_String_38 ?_
    refine y_join (S := Unit) 79 (fun s6 => [some (va_rf this), none, none, some (va_rf x2), some (yi x4)]) (fun s6 => []) ?_ ?_
    ·
      refine y_ifeq hX 22 79 rfl (by decide) ?_ ?_
      ·
        exact y_exit (fun w h => yj_wk (ρ' := [some (va_rf this), none, none, some (va_rf x2), some (yi x4)]) (qw_s (qw_n (qw_n (qw_s (qw_s (qw_0)))))) h)
      ·
        refine y_aload_n hX 23 rfl rfl ?_
        refine y_get hX 24 (t := 11) (j := 2) rfl yfl_String_1048 (by decide) (by decide +kernel) (fun x7 => ?_)
        refine y_ifeq hX 25 79 rfl (by decide) ?_ ?_
        ·
          exact y_exit (fun w h => yj_wk (ρ' := [some (va_rf this), none, none, some (va_rf x2), some (yi x4)]) (qw_s (qw_n (qw_n (qw_s (qw_s (qw_0)))))) h)
        ·
          exact y_F
    · intro s6
      refine y_aload_n hX 39 rfl rfl ?_
      refine y_iconst hX 40 1 rfl (by decide) ?_
      refine y_putB hX 41 1 (t := 12) (j := 1) rfl yfp_String_15 (fun _ => hN) (by decide) (by decide +kernel) ?_
      refine y_aload_n hX 42 rfl rfl ?_
      refine y_aload_n hX 43 rfl rfl ?_
      refine y_iconst hX 44 0 rfl (by decide) ?_
      refine y_iload hX 45 rfl rfl ?_
      refine y_iconst hX 46 1 rfl (by decide) ?_
      refine y_ishl hX 47 rfl ?_
      refine y_calR hX y_gK (y_hrS hX 48 (As := [va_rf x2, yi (0 : Int), yi (ybShl x4 (1 : Int))]) rfl ycw_String_54 (km_Arrays_copyOfRange (yk_G hX) x2 (0 : Int) (ybShl x4 (1 : Int))) ⟨rfl, by decide, by decide⟩ rfl (Nat.le_trans (y_cs (yc_D _) y_cn) (by decide))) (fun x8 => ?_)
      refine y_putR hX 49 1 (t := 12) (j := 0) rfl yfp_String_9 (fun _ => hN) (by decide) (by decide +kernel) (by first | exact Or.inr ⟨_, rfl⟩ | exact Or.inl ⟨_, rfl⟩) ?_
      exact y_vret hX 50 rfl hR (fun _ h => And.right h)
  ·
    refine y_aload_n hX 11 rfl rfl ?_
    refine y_iconst hX 12 0 rfl (by decide) ?_
    refine y_putB hX 13 1 (t := 12) (j := 1) rfl yfp_String_15 (fun _ => hN) (by decide) (by decide +kernel) ?_
    refine y_aload_n hX 14 rfl rfl ?_
    refine y_aload_n hX 15 rfl rfl ?_
    refine y_iconst hX 16 0 rfl (by decide) ?_
    refine y_iload hX 17 rfl rfl ?_
    refine y_calR hX y_gK (y_hrS hX 18 (As := [va_rf x2, yi (0 : Int), yi x4]) rfl ycw_String_54 (km_Arrays_copyOfRange (yk_G hX) x2 (0 : Int) x4) ⟨rfl, by decide, by decide⟩ rfl (Nat.le_trans (y_cs (yc_D _) y_cn) (by decide))) (fun x9 => ?_)
    refine y_putR hX 19 1 (t := 12) (j := 0) rfl yfp_String_9 (fun _ => hN) (by decide) (by decide +kernel) (by first | exact Or.inr ⟨_, rfl⟩ | exact Or.inl ⟨_, rfl⟩) ?_
    refine y_goto hX 20 (tgt := 97) rfl (by decide) ?_
    exact y_vret hX 50 rfl hR (fun _ h => And.right h)
theorem km_String_init_db425 {l : Launch} {G : qm_G} {Y : yY} (hG : yGG G Y) (this : Option Nat) (p1 : Option Nat) (p2 : Option Nat) : yMM (yQv G Y) l G Y jy_String_init_db425 prog_19_method_150_code 5 none 3 72 [va_rf this, va_rf p1, va_rf p2] (kf_String_init_db425 Y this p1 p2) :=
  y_met (by decide +kernel) jd_String_init_db425 (fun v hv => by simp only [List.mem_cons, List.not_mem_nil, or_false] at hv; rcases hv with rfl | rfl | rfl <;> first | exact yc_D _ | rfl) (by exact Nat.le_of_ble_eq_true rfl) hG (fun X Fn r0 w0 hl hg hn hX hR => by subst hl; subst hg; exact kb_String_init_db425 hX hR hn this p1 p2)
def jl_String_init_81219 : List qm_I := [(0, .aload_n 0, 1, 1), (1, .aload_n 1, 1, 2), (2, .aconst_null, 1, 3), (3, .invokespecial 489, 3, 6), (6, .return_, 1, 7)]
theorem jd_String_init_81219 : qm_D prog_19_method_53_code jl_String_init_81219 := qm_D_of (by decide +kernel)
noncomputable def kf_String_init_81219 (Y : yY) (this : Option Nat) (p1 : Option Nat) : yM Unit :=
  yB (yKr 22 this (kf_String_init_db425 Y this p1 none)) fun _ =>
  yP ()
set_option maxRecDepth 20000 in
set_option maxHeartbeats 4000000 in
theorem kb_String_init_81219 {X : qm_X} {Y : yY} {Fn : yFn} (hX : y_ok X Y Fn "java/lang/String" prog_19_method_53_code 2 4 96 jl_String_init_81219) {w0 : yW} (hR : y_RV X Y Fn w0) (hN : (qx_meth X).name = "<init>") (this : Option Nat) (p1 : Option Nat) : yb X Y Fn (kf_String_init_81219 Y this p1) 0 [some (va_rf this), some (va_rf p1)] [] (fun r w1 => r = () ∧ w1 = w0) := by
  unfold kf_String_init_81219
  refine y_aload_n hX 0 rfl rfl ?_
  refine y_aload_n hX 1 rfl rfl ?_
  refine y_aconst hX 2 rfl ?_
  refine y_calV hX y_gRo (y_hrIo hX 3 (t := 12) (As := [va_rf p1, va_rf none]) (a := this) rfl ycw_String_489 (fun p e => by cases e; exact km_String_init_db425 (yk_G hX) p p1 none) ⟨rfl, by decide, by decide⟩ rfl (Nat.le_trans y_cn (by decide))) ?_
  exact y_vret hX 4 rfl hR (fun _ h => And.right h)
theorem km_String_init_81219 {l : Launch} {G : qm_G} {Y : yY} (hG : yGG G Y) (this : Option Nat) (p1 : Option Nat) : yMM (yQv G Y) l G Y jy_String_init_81219 prog_19_method_53_code 2 none 4 96 [va_rf this, va_rf p1] (kf_String_init_81219 Y this p1) :=
  y_met (by decide +kernel) jd_String_init_81219 (fun v hv => by simp only [List.mem_cons, List.not_mem_nil, or_false] at hv; rcases hv with rfl | rfl <;> first | exact yc_D _ | rfl) (by exact Nat.le_of_ble_eq_true rfl) hG (fun X Fn r0 w0 hl hg hn hX hR => by subst hl; subst hg; exact kb_String_init_81219 hX hR hn this p1)
def jl_SB_toString : List qm_I := [(0, .new 18, 3, 3), (3, .dup, 1, 4), (4, .aload_n 0, 1, 5), (5, .invokespecial 137, 3, 8), (8, .areturn, 1, 9)]
theorem jd_SB_toString : qm_D prog_20_method_42_code jl_SB_toString := qm_D_of (by decide +kernel)
noncomputable def kf_SB_toString (Y : yY) (this : Option Nat) : yM (Option Nat) :=
  yB (yNo 22) fun x1 =>
  yB (yKr 22 x1 (kf_String_init_81219 Y x1 this)) fun _ =>
  yB (yNn x1) fun _ =>
  yP x1
set_option maxRecDepth 20000 in
set_option maxHeartbeats 4000000 in
theorem kb_SB_toString {X : qm_X} {Y : yY} {Fn : yFn} (hX : y_ok X Y Fn "java/lang/StringBuilder" prog_20_method_42_code 1 5 117 jl_SB_toString) {r0 : Option Nat} {w0 : yW} (hR : y_RR X Y Fn r0 w0 (.object "java/lang/String")) (this : Option Nat) : yb X Y Fn (kf_SB_toString Y this) 0 [some (va_rf this)] [] (fun r w1 => r = r0 ∧ w1 = w0) := by
  unfold kf_SB_toString
  refine y_new hX 0 (t := 12) rfl yn_SB_18 (by decide) (fun x1 => ?_)
  refine y_dup hX 1 rfl (yc_D _) ?_
  refine y_aload_n hX 2 rfl rfl ?_
  refine y_calV hX y_gRo (y_hrIo hX 3 (t := 12) (As := [va_rf this]) (a := x1) rfl ycw_SB_137 (fun p e => by cases e; exact km_String_init_81219 (yk_G hX) p this) ⟨rfl, by decide, by decide⟩ rfl (Nat.le_trans (y_cs (yc_D _) y_cn) (by decide))) ?_
  exact y_aret hX 4 rfl hR (fun _ h => h)
theorem km_SB_toString {l : Launch} {G : qm_G} {Y : yY} (hG : yGG G Y) (this : Option Nat) : yMM (yQr G Y) l G Y jy_SB_toString prog_20_method_42_code 1 (some (.object "java/lang/String")) 5 117 [va_rf this] (kf_SB_toString Y this) :=
  y_met (by decide +kernel) jd_SB_toString (fun v hv => by simp only [List.mem_cons, List.not_mem_nil, or_false] at hv; rcases hv with rfl <;> first | exact yc_D _ | rfl) (by exact Nat.le_of_ble_eq_true rfl) hG (fun X Fn r0 w0 hl hg hn hX hR => by subst hl; subst hg; exact kb_SB_toString hX ⟨⟨hR.1.1, hR.1.2, Or.inl ⟨_, rfl⟩⟩, hR.2⟩ this)
def jl_LRun_told : List qm_I := [(0, .bipush 8, 2, 2), (2, .anewarray 36, 3, 5), (5, .dup, 1, 6), (6, .iconst 0, 1, 7), (7, .ldc 38, 2, 9), (9, .aastore, 1, 10), (10, .dup, 1, 11), (11, .iconst 1, 1, 12), (12, .ldc 40, 2, 14), (14, .aastore, 1, 15), (15, .dup, 1, 16), (16, .iconst 2, 1, 17), (17, .ldc 42, 2, 19), (19, .aastore, 1, 20), (20, .dup, 1, 21), (21, .iconst 3, 1, 22), (22, .ldc 44, 2, 24), (24, .aastore, 1, 25), (25, .dup, 1, 26), (26, .iconst 4, 1, 27), (27, .ldc 46, 2, 29), (29, .aastore, 1, 30), (30, .dup, 1, 31), (31, .iconst 5, 1, 32), (32, .ldc 48, 2, 34), (34, .aastore, 1, 35), (35, .dup, 1, 36), (36, .bipush 6, 2, 38), (38, .ldc 50, 2, 40), (40, .aastore, 1, 41), (41, .dup, 1, 42), (42, .bipush 7, 2, 44), (44, .ldc 52, 2, 46), (46, .aastore, 1, 47), (47, .astore_n 1, 1, 48), (48, .iconst 5, 1, 49), (49, .anewarray 36, 3, 52), (52, .dup, 1, 53), (53, .iconst 0, 1, 54), (54, .ldc 54, 2, 56), (56, .aastore, 1, 57), (57, .dup, 1, 58), (58, .iconst 1, 1, 59), (59, .ldc 56, 2, 61), (61, .aastore, 1, 62), (62, .dup, 1, 63), (63, .iconst 2, 1, 64), (64, .ldc 58, 2, 66), (66, .aastore, 1, 67), (67, .dup, 1, 68), (68, .iconst 3, 1, 69), (69, .ldc 60, 2, 71), (71, .aastore, 1, 72), (72, .dup, 1, 73), (73, .iconst 4, 1, 74), (74, .ldc 62, 2, 76), (76, .aastore, 1, 77), (77, .astore_n 2, 1, 78), (78, .new 64, 3, 81), (81, .dup, 1, 82), (82, .sipush 400, 3, 85), (85, .invokespecial 66, 3, 88), (88, .astore_n 3, 1, 89), (89, .iconst 0, 1, 90), (90, .istore 4, 2, 92), (92, .iload 4, 2, 94), (94, .bipush 8, 2, 96), (96, .if_icmp .ge 48, 3, 99), (99, .aload_n 3, 1, 100), (100, .iload 4, 2, 102), (102, .ifCond .le 8, 3, 105), (105, .ldc 69, 2, 107), (107, .goto 5, 3, 110), (110, .ldc 71, 2, 112), (112, .invokevirtual 73, 3, 115), (115, .aload_n 1, 1, 116), (116, .iload 4, 2, 118), (118, .aaload, 1, 119), (119, .invokevirtual 73, 3, 122), (122, .bipush 32, 2, 124), (124, .invokevirtual 77, 3, 127), (127, .aload_n 0, 1, 128), (128, .getfield 7, 3, 131), (131, .iload 4, 2, 133), (133, .iaload, 1, 134), (134, .invokevirtual 80, 3, 137), (137, .pop, 1, 138), (138, .iinc 4 1, 3, 141), (141, .goto (-49), 3, 144), (144, .iconst 0, 1, 145), (145, .istore 4, 2, 147), (147, .iload 4, 2, 149), (149, .aload_n 0, 1, 150), (150, .getfield 28, 3, 153), (153, .if_icmp .ge 214, 3, 156), (156, .aload_n 0, 1, 157), (157, .getfield 14, 3, 160), (160, .iload 4, 2, 162), (162, .aaload, 1, 163), (163, .astore 5, 2, 165), (165, .aload_n 3, 1, 166), (166, .bipush 59, 2, 168), (168, .invokevirtual 77, 3, 171), (171, .aload_n 2, 1, 172), (172, .aload 5, 2, 174), (174, .iconst 0, 1, 175), (175, .iaload, 1, 176), (176, .aaload, 1, 177), (177, .invokevirtual 73, 3, 180), (180, .pop, 1, 181), (181, .aload 5, 2, 183), (183, .iconst 0, 1, 184), (184, .iaload, 1, 185), (185, .iconst 3, 1, 186), (186, .if_icmp .ne 17, 3, 189), (189, .aload_n 3, 1, 190), (190, .bipush 32, 2, 192), (192, .invokevirtual 77, 3, 195), (195, .aload 5, 2, 197), (197, .iconst 3, 1, 198), (198, .iaload, 1, 199), (199, .invokevirtual 80, 3, 202), (202, .pop, 1, 203), (203, .aload 5, 2, 205), (205, .iconst 0, 1, 206), (206, .iaload, 1, 207), (207, .ifCond .eq 11, 3, 210), (210, .aload 5, 2, 212), (212, .iconst 0, 1, 213), (213, .iaload, 1, 214), (214, .iconst 3, 1, 215), (215, .if_icmp .ne 17, 3, 218), (218, .aload_n 3, 1, 219), (219, .bipush 32, 2, 221), (221, .invokevirtual 77, 3, 224), (224, .aload 5, 2, 226), (226, .iconst 1, 1, 227), (227, .iaload, 1, 228), (228, .invokevirtual 80, 3, 231), (231, .pop, 1, 232), (232, .aload_n 3, 1, 233), (233, .bipush 32, 2, 235), (235, .invokevirtual 77, 3, 238), (238, .aload 5, 2, 240), (240, .iconst 2, 1, 241), (241, .iaload, 1, 242), (242, .invokevirtual 80, 3, 245), (245, .pop, 1, 246), (246, .aload 5, 2, 248), (248, .iconst 4, 1, 249), (249, .iaload, 1, 250), (250, .iconst 1, 1, 251), (251, .if_icmp .ne 10, 3, 254), (254, .aload_n 3, 1, 255), (255, .ldc 83, 2, 257), (257, .invokevirtual 73, 3, 260), (260, .pop, 1, 261), (261, .aload 5, 2, 263), (263, .iconst 5, 1, 264), (264, .iaload, 1, 265), (265, .iconst 1, 1, 266), (266, .if_icmp .ne 10, 3, 269), (269, .aload_n 3, 1, 270), (270, .ldc 85, 2, 272), (272, .invokevirtual 73, 3, 275), (275, .pop, 1, 276), (276, .aload 5, 2, 278), (278, .bipush 6, 2, 280), (280, .iaload, 1, 281), (281, .ifCond .le 18, 3, 284), (284, .aload_n 3, 1, 285), (285, .ldc 87, 2, 287), (287, .invokevirtual 73, 3, 290), (290, .aload 5, 2, 292), (292, .bipush 6, 2, 294), (294, .iaload, 1, 295), (295, .invokevirtual 80, 3, 298), (298, .pop, 1, 299), (299, .iconst 0, 1, 300), (300, .istore 6, 2, 302), (302, .iload 6, 2, 304), (304, .aload_n 0, 1, 305), (305, .getfield 18, 3, 308), (308, .iload 4, 2, 310), (310, .aaload, 1, 311), (311, .arraylength, 1, 312), (312, .if_icmp .ge 49, 3, 315), (315, .aload_n 3, 1, 316), (316, .ldc 89, 2, 318), (318, .invokevirtual 73, 3, 321), (321, .aload_n 0, 1, 322), (322, .getfield 18, 3, 325), (325, .iload 4, 2, 327), (327, .aaload, 1, 328), (328, .iload 6, 2, 330), (330, .iaload, 1, 331), (331, .invokevirtual 80, 3, 334), (334, .bipush 32, 2, 336), (336, .invokevirtual 77, 3, 339), (339, .aload_n 0, 1, 340), (340, .getfield 18, 3, 343), (343, .iload 4, 2, 345), (345, .aaload, 1, 346), (346, .iload 6, 2, 348), (348, .iconst 1, 1, 349), (349, .iadd, 1, 350), (350, .iaload, 1, 351), (351, .invokevirtual 80, 3, 354), (354, .pop, 1, 355), (355, .iinc 6 2, 3, 358), (358, .goto (-56), 3, 361), (361, .iinc 4 1, 3, 364), (364, .goto (-217), 3, 367), (367, .aload_n 3, 1, 368), (368, .invokevirtual 91, 3, 371), (371, .areturn, 1, 372)]
theorem jd_LRun_told : qm_D prog_12_method_5_code jl_LRun_told := qm_D_of (by decide +kernel)
noncomputable def kf_LRun_told (Y : yY) (this : Option Nat) : yM (Option Nat) :=
  yB (yNa 7 (8 : Int)) fun x1 =>
  yB (ySr 7 36 x1 (0 : Int) (some (y_ad Y 1))) fun _ =>
  yB (ySr 7 36 x1 (1 : Int) (some (y_ad Y 2))) fun _ =>
  yB (ySr 7 36 x1 (2 : Int) (some (y_ad Y 3))) fun _ =>
  yB (ySr 7 36 x1 (3 : Int) (some (y_ad Y 4))) fun _ =>
  yB (ySr 7 36 x1 (4 : Int) (some (y_ad Y 5))) fun _ =>
  yB (ySr 7 36 x1 (5 : Int) (some (y_ad Y 6))) fun _ =>
  yB (ySr 7 36 x1 (6 : Int) (some (y_ad Y 7))) fun _ =>
  yB (ySr 7 36 x1 (7 : Int) (some (y_ad Y 8))) fun _ =>
  yB (yP x1) fun x2 =>
  yB (yNa 7 (5 : Int)) fun x3 =>
  yB (ySr 7 36 x3 (0 : Int) (some (y_ad Y 9))) fun _ =>
  yB (ySr 7 36 x3 (1 : Int) (some (y_ad Y 10))) fun _ =>
  yB (ySr 7 36 x3 (2 : Int) (some (y_ad Y 11))) fun _ =>
  yB (ySr 7 36 x3 (3 : Int) (some (y_ad Y 12))) fun _ =>
  yB (ySr 7 36 x3 (4 : Int) (some (y_ad Y 13))) fun _ =>
  yB (yP x3) fun x4 =>
  yB (yNo 21) fun x5 =>
  yB (yKr 21 x5 (kf_SB_init Y x5 (400 : Int))) fun _ =>
  yB (yP x5) fun x7 =>
  yB (yP (0 : Int)) fun x8 =>
  yB (α := Unit) (
    yLp (S := Int) (α := Unit) (fun s10 =>
      yB (yR2 s10 (8 : Int)) fun _ =>
      if (8 : Int) ≤ s10 then
        yP (Sum.inr ())
      else
        yB (α := Option Nat) (
          yB (yR s10) fun _ =>
          if s10 ≤ 0 then
            yP (some (y_ad Y 15))
          else
            yP (some (y_ad Y 14))) fun s11 =>
        yB (yKr 21 x7 (kf_SB_append_15ec4 Y x7 s11)) fun x12 =>
        yB (yLr 7 x2 s10) fun x13 =>
        yB (yKr 21 x12 (kf_SB_append_15ec4 Y x12 x13)) fun x14 =>
        yB (yKr 21 x14 (kf_SB_append_cf468 Y x14 (32 : Int))) fun x15 =>
        yB (yGr 20 this 0) fun x16 =>
        yB (yLd 1 x16 s10) fun x17 =>
        yB (yKr 21 x15 (kf_SB_append_bf812 Y x15 x17)) fun x18 =>
        yB (yP (s10 + 1)) fun x19 =>
        yP (Sum.inl x19)) x8) fun s9 =>
  yB (yP (0 : Int)) fun x20 =>
  yB (α := Unit) (
    yLp (S := Int) (α := Unit) (fun s22 =>
      yB (yGt 20 this 1) fun x23 =>
      yB (yR2 s22 x23) fun _ =>
      if x23 ≤ s22 then
        yP (Sum.inr ())
      else
        yB (yGr 20 this 2) fun x24 =>
        yB (yLr 4 x24 s22) fun x25 =>
        yB (yP x25) fun x26 =>
        yB (yKr 21 x7 (kf_SB_append_cf468 Y x7 (59 : Int))) fun x27 =>
        yB (yLd 1 x26 (0 : Int)) fun x28 =>
        yB (yLr 7 x4 x28) fun x29 =>
        yB (yKr 21 x27 (kf_SB_append_15ec4 Y x27 x29)) fun x30 =>
        yB (yLd 1 x26 (0 : Int)) fun x31 =>
        yB (α := Unit) (
          yB (yR2 x31 (3 : Int)) fun _ =>
          if ¬ x31 = (3 : Int) then
            yP ()
          else
            yB (yKr 21 x7 (kf_SB_append_cf468 Y x7 (32 : Int))) fun x33 =>
            yB (yLd 1 x26 (3 : Int)) fun x34 =>
            yB (yKr 21 x33 (kf_SB_append_bf812 Y x33 x34)) fun x35 =>
            yP ()) fun s32 =>
        yB (yLd 1 x26 (0 : Int)) fun x36 =>
        yB (α := Unit) (
          yB (α := (Unit ⊕ Unit)) (
            yB (yR x36) fun _ =>
            if x36 = 0 then
              yP (Sum.inl ())
            else
              yB (yLd 1 x26 (0 : Int)) fun x39 =>
              yB (yR2 x39 (3 : Int)) fun _ =>
              if ¬ x39 = (3 : Int) then
                yP (Sum.inr ())
              else
                yP (Sum.inl ())) (Sum.elim (fun s38 =>
            yB (yKr 21 x7 (kf_SB_append_cf468 Y x7 (32 : Int))) fun x40 =>
            yB (yLd 1 x26 (1 : Int)) fun x41 =>
            yB (yKr 21 x40 (kf_SB_append_bf812 Y x40 x41)) fun x42 =>
            yP ()) yP)) fun s37 =>
        yB (yKr 21 x7 (kf_SB_append_cf468 Y x7 (32 : Int))) fun x43 =>
        yB (yLd 1 x26 (2 : Int)) fun x44 =>
        yB (yKr 21 x43 (kf_SB_append_bf812 Y x43 x44)) fun x45 =>
        yB (yLd 1 x26 (4 : Int)) fun x46 =>
        yB (α := Unit) (
          yB (yR2 x46 (1 : Int)) fun _ =>
          if ¬ x46 = (1 : Int) then
            yP ()
          else
            yB (yKr 21 x7 (kf_SB_append_15ec4 Y x7 (some (y_ad Y 16)))) fun x48 =>
            yP ()) fun s47 =>
        yB (yLd 1 x26 (5 : Int)) fun x49 =>
        yB (α := Unit) (
          yB (yR2 x49 (1 : Int)) fun _ =>
          if ¬ x49 = (1 : Int) then
            yP ()
          else
            yB (yKr 21 x7 (kf_SB_append_15ec4 Y x7 (some (y_ad Y 17)))) fun x51 =>
            yP ()) fun s50 =>
        yB (yLd 1 x26 (6 : Int)) fun x52 =>
        yB (α := Unit) (
          yB (yR x52) fun _ =>
          if x52 ≤ 0 then
            yP ()
          else
            yB (yKr 21 x7 (kf_SB_append_15ec4 Y x7 (some (y_ad Y 18)))) fun x54 =>
            yB (yLd 1 x26 (6 : Int)) fun x55 =>
            yB (yKr 21 x54 (kf_SB_append_bf812 Y x54 x55)) fun x56 =>
            yP ()) fun s53 =>
        yB (yP (0 : Int)) fun x57 =>
        yB (α := Unit) (
          yLp (S := Int) (α := Unit) (fun s59 =>
            yB (yGr 20 this 3) fun x60 =>
            yB (yLr 4 x60 s22) fun x61 =>
            yB (yLn x61) fun x62 =>
            yB (yR2 s59 x62) fun _ =>
            if x62 ≤ s59 then
              yP (Sum.inr ())
            else
              yB (yKr 21 x7 (kf_SB_append_15ec4 Y x7 (some (y_ad Y 19)))) fun x63 =>
              yB (yGr 20 this 3) fun x64 =>
              yB (yLr 4 x64 s22) fun x65 =>
              yB (yLd 1 x65 s59) fun x66 =>
              yB (yKr 21 x63 (kf_SB_append_bf812 Y x63 x66)) fun x67 =>
              yB (yKr 21 x67 (kf_SB_append_cf468 Y x67 (32 : Int))) fun x68 =>
              yB (yGr 20 this 3) fun x69 =>
              yB (yLr 4 x69 s22) fun x70 =>
              yB (yLd 1 x70 (s59 + (1 : Int))) fun x71 =>
              yB (yKr 21 x68 (kf_SB_append_bf812 Y x68 x71)) fun x72 =>
              yB (yP (s59 + 2)) fun x73 =>
              yP (Sum.inl x73)) x57) fun s58 =>
        yB (yP (s22 + 1)) fun x74 =>
        yP (Sum.inl x74)) x20) fun s21 =>
  yB (yKr 21 x7 (kf_SB_toString Y x7)) fun x75 =>
  yB (yNn x75) fun _ =>
  yP x75
set_option maxRecDepth 20000 in
set_option maxHeartbeats 4000000 in
theorem kb_LRun_told {X : qm_X} {Y : yY} {Fn : yFn} (hX : y_ok X Y Fn qr_LRun prog_12_method_5_code 7 6 137 jl_LRun_told) {r0 : Option Nat} {w0 : yW} (hR : y_RR X Y Fn r0 w0 (.object "java/lang/String")) (this : Option Nat) : yb X Y Fn (kf_LRun_told Y this) 0 [some (va_rf this), none, none, none, none, none, none] [] (fun r w1 => r = r0 ∧ w1 = w0) := by
  unfold kf_LRun_told
  refine y_bipush hX 0 8 rfl (by decide) ?_
  refine y_anewS hX 1 rfl ycl_LRun_36 (fun x1 => ?_)
  refine y_dup hX 2 rfl (yc_D _) ?_
  refine y_iconst hX 3 0 rfl (by decide) ?_
  refine y_ldcS hX 4 1 (tx := "columns") rfl (by decide +kernel) ?_
  refine y_aast hX 5 (t := 7) (t' := 36) (by decide) rfl ?_
  refine y_dup hX 6 rfl (yc_D _) ?_
  refine y_iconst hX 7 1 rfl (by decide) ?_
  refine y_ldcS hX 8 2 (tx := "height") rfl (by decide +kernel) ?_
  refine y_aast hX 9 (t := 7) (t' := 36) (by decide) rfl ?_
  refine y_dup hX 10 rfl (yc_D _) ?_
  refine y_iconst hX 11 2 rfl (by decide) ?_
  refine y_ldcS hX 12 3 (tx := "orphans") rfl (by decide +kernel) ?_
  refine y_aast hX 13 (t := 7) (t' := 36) (by decide) rfl ?_
  refine y_dup hX 14 rfl (yc_D _) ?_
  refine y_iconst hX 15 3 rfl (by decide) ?_
  refine y_ldcS hX 16 4 (tx := "widows") rfl (by decide +kernel) ?_
  refine y_aast hX 17 (t := 7) (t' := 36) (by decide) rfl ?_
  refine y_dup hX 18 rfl (yc_D _) ?_
  refine y_iconst hX 19 4 rfl (by decide) ?_
  refine y_ldcS hX 20 5 (tx := "follow") rfl (by decide +kernel) ?_
  refine y_aast hX 21 (t := 7) (t' := 36) (by decide) rfl ?_
  refine y_dup hX 22 rfl (yc_D _) ?_
  refine y_iconst hX 23 5 rfl (by decide) ?_
  refine y_ldcS hX 24 6 (tx := "note") rfl (by decide +kernel) ?_
  refine y_aast hX 25 (t := 7) (t' := 36) (by decide) rfl ?_
  refine y_dup hX 26 rfl (yc_D _) ?_
  refine y_bipush hX 27 6 rfl (by decide) ?_
  refine y_ldcS hX 28 7 (tx := "rule") rfl (by decide +kernel) ?_
  refine y_aast hX 29 (t := 7) (t' := 36) (by decide) rfl ?_
  refine y_dup hX 30 rfl (yc_D _) ?_
  refine y_bipush hX 31 7 rfl (by decide) ?_
  refine y_ldcS hX 32 8 (tx := "room") rfl (by decide +kernel) ?_
  refine y_aast hX 33 (t := 7) (t' := 36) (by decide) rfl ?_
  refine y_astore_n hX 34 (fun x2 => [some (va_rf this), some (va_rf x2), none, none, none, none, none]) rfl (by decide) (fun _ => rfl) (fun x2 => ?_)
  refine y_iconst hX 35 5 rfl (by decide) ?_
  refine y_anewS hX 36 rfl ycl_LRun_36 (fun x3 => ?_)
  refine y_dup hX 37 rfl (yc_D _) ?_
  refine y_iconst hX 38 0 rfl (by decide) ?_
  refine y_ldcS hX 39 9 (tx := "lines") rfl (by decide +kernel) ?_
  refine y_aast hX 40 (t := 7) (t' := 36) (by decide) rfl ?_
  refine y_dup hX 41 rfl (yc_D _) ?_
  refine y_iconst hX 42 1 rfl (by decide) ?_
  refine y_ldcS hX 43 10 (tx := "solid") rfl (by decide +kernel) ?_
  refine y_aast hX 44 (t := 7) (t' := 36) (by decide) rfl ?_
  refine y_dup hX 45 rfl (yc_D _) ?_
  refine y_iconst hX 46 2 rfl (by decide) ?_
  refine y_ldcS hX 47 11 (tx := "head") rfl (by decide +kernel) ?_
  refine y_aast hX 48 (t := 7) (t' := 36) (by decide) rfl ?_
  refine y_dup hX 49 rfl (yc_D _) ?_
  refine y_iconst hX 50 3 rfl (by decide) ?_
  refine y_ldcS hX 51 12 (tx := "table") rfl (by decide +kernel) ?_
  refine y_aast hX 52 (t := 7) (t' := 36) (by decide) rfl ?_
  refine y_dup hX 53 rfl (yc_D _) ?_
  refine y_iconst hX 54 4 rfl (by decide) ?_
  refine y_ldcS hX 55 13 (tx := "span") rfl (by decide +kernel) ?_
  refine y_aast hX 56 (t := 7) (t' := 36) (by decide) rfl ?_
  refine y_astore_n hX 57 (fun x4 => [some (va_rf this), some (va_rf x2), some (va_rf x4), none, none, none, none]) rfl (by decide) (fun _ => rfl) (fun x4 => ?_)
  refine y_new hX 58 (t := 11) rfl yn_LRun_64 (by decide) (fun x5 => ?_)
  refine y_dup hX 59 rfl (yc_D _) ?_
  refine y_sipush hX 60 400 rfl (by decide) ?_
  refine y_calV hX y_gRo (y_hrIo hX 61 (t := 11) (As := [yi (400 : Int)]) (a := x5) rfl ycw_LRun_66 (fun p e => by cases e; exact km_SB_init (yk_G hX) p (400 : Int)) ⟨rfl, by decide, by decide⟩ rfl (Nat.le_trans (y_cs (yc_D _) y_cn) (by decide))) ?_
  refine y_astore_n hX 62 (fun x7 => [some (va_rf this), some (va_rf x2), some (va_rf x4), some (va_rf x7), none, none, none]) rfl (by decide) (fun _ => rfl) (fun x7 => ?_)
  refine y_iconst hX 63 0 rfl (by decide) ?_
  refine y_istore hX 64 (fun x8 => [some (va_rf this), some (va_rf x2), some (va_rf x4), some (va_rf x7), some (yi x8), none, none]) rfl (by decide) (fun _ => rfl) (fun x8 => ?_)
  refine y_join (S := Unit) 144 (fun s9 => [some (va_rf this), none, some (va_rf x4), some (va_rf x7), none, none, none]) (fun s9 => []) ?_ ?_
  ·
    refine y_loopw (S := Int) (x8) (fun s10 => [some (va_rf this), some (va_rf x2), some (va_rf x4), some (va_rf x7), some (yi s10), none, none]) (qw_s (qw_s (qw_s (qw_s (qw_s (qw_n (qw_n (qw_0)))))))) (fun s10 => ?_)
    refine y_iload hX 65 rfl rfl ?_
    refine y_bipush hX 66 8 rfl (by decide) ?_
    refine y_icge hX 67 144 rfl (by decide) ?_ ?_
    ·
      exact y_exit (fun w h => yj_wk (ρ' := [some (va_rf this), none, some (va_rf x4), some (va_rf x7), none, none, none]) (qw_s (qw_n (qw_s (qw_s (qw_n (qw_n (qw_n (qw_0)))))))) h)
    ·
      refine y_aload_n hX 68 rfl rfl ?_
      refine y_iload hX 69 rfl rfl ?_
      refine y_join (S := Option Nat) 112 (fun s11 => [some (va_rf this), some (va_rf x2), some (va_rf x4), some (va_rf x7), some (yi s10), none, none]) (fun s11 => [va_rf s11, va_rf x7]) ?_ ?_
      ·
        refine y_ifle hX 70 110 rfl (by decide) ?_ ?_
        ·
          refine y_ldcS hX 73 15 (tx := "") rfl (by decide +kernel) ?_
          exact y_exit (fun w h => yj_wk (ρ' := [some (va_rf this), some (va_rf x2), some (va_rf x4), some (va_rf x7), some (yi s10), none, none]) (qw_s (qw_s (qw_s (qw_s (qw_s (qw_n (qw_n (qw_0)))))))) h)
        ·
          refine y_ldcS hX 71 14 (tx := ";") rfl (by decide +kernel) ?_
          exact y_exit (fun w h => yj_goto hX 72 rfl (by decide) (yj_wk (ρ' := [some (va_rf this), some (va_rf x2), some (va_rf x4), some (va_rf x7), some (yi s10), none, none]) (qw_s (qw_s (qw_s (qw_s (qw_s (qw_n (qw_n (qw_0)))))))) h))
      · intro s11
        refine y_calR hX y_gRo (y_hrVo hX 74 (t := 11) (As := [va_rf s11]) (a := x7) rfl ycw_LRun_73 (fun p e => by cases e; exact km_SB_append_15ec4 (yk_G hX) p s11) (by decide) ⟨rfl, rfl, rfl, by decide, by decide⟩ rfl (Nat.le_trans y_cn (by decide))) (fun x12 => ?_)
        refine y_aload_n hX 75 rfl rfl ?_
        refine y_iload hX 76 rfl rfl ?_
        refine y_aald hX 77 (t := 7) (by decide) rfl (fun x13 => ?_)
        refine y_calR hX y_gRo (y_hrVo hX 78 (t := 11) (As := [va_rf x13]) (a := x12) rfl ycw_LRun_73 (fun p e => by cases e; exact km_SB_append_15ec4 (yk_G hX) p x13) (by decide) ⟨rfl, rfl, rfl, by decide, by decide⟩ rfl (Nat.le_trans y_cn (by decide))) (fun x14 => ?_)
        refine y_bipush hX 79 32 rfl (by decide) ?_
        refine y_calR hX y_gRo (y_hrVo hX 80 (t := 11) (As := [yi (32 : Int)]) (a := x14) rfl ycw_LRun_77 (fun p e => by cases e; exact km_SB_append_cf468 (yk_G hX) p (32 : Int)) (by decide) ⟨rfl, rfl, rfl, by decide, by decide⟩ rfl (Nat.le_trans y_cn (by decide))) (fun x15 => ?_)
        refine y_aload_n hX 81 rfl rfl ?_
        refine y_getR hX 82 (t := 10) (j := 0) rfl yfl_LRun_7 (by decide) (by decide +kernel) (fun x16 => ?_)
        refine y_iload hX 83 rfl rfl ?_
        refine y_iald hX 84 rfl (fun x17 => ?_)
        refine y_calR hX y_gRo (y_hrVo hX 85 (t := 11) (As := [yi x17]) (a := x15) rfl ycw_LRun_80 (fun p e => by cases e; exact km_SB_append_bf812 (yk_G hX) p x17) (by decide) ⟨rfl, rfl, rfl, by decide, by decide⟩ rfl (Nat.le_trans y_cn (by decide))) (fun x18 => ?_)
        refine y_pop hX 86 rfl (yc_D _) ?_
        refine y_iinc hX 87 (fun x19 => [some (va_rf this), some (va_rf x2), some (va_rf x4), some (va_rf x7), some (yi x19), none, none]) rfl (by decide) rfl (fun _ => rfl) (fun x19 => ?_)
        exact y_exit (fun w h => yj_goto hX 88 rfl (by decide) (yj_wk (ρ' := [some (va_rf this), some (va_rf x2), some (va_rf x4), some (va_rf x7), some (yi x19), none, none]) (qw_s (qw_s (qw_s (qw_s (qw_s (qw_n (qw_n (qw_0)))))))) h))
  · intro s9
    refine y_iconst hX 89 0 rfl (by decide) ?_
    refine y_istore hX 90 (fun x20 => [some (va_rf this), none, some (va_rf x4), some (va_rf x7), some (yi x20), none, none]) rfl (by decide) (fun _ => rfl) (fun x20 => ?_)
    refine y_join (S := Unit) 367 (fun s21 => [none, none, none, some (va_rf x7), none, none, none]) (fun s21 => []) ?_ ?_
    ·
      refine y_loopw (S := Int) (x20) (fun s22 => [some (va_rf this), none, some (va_rf x4), some (va_rf x7), some (yi s22), none, none]) (qw_s (qw_n (qw_s (qw_s (qw_s (qw_n (qw_n (qw_0)))))))) (fun s22 => ?_)
      refine y_iload hX 91 rfl rfl ?_
      refine y_aload_n hX 92 rfl rfl ?_
      refine y_get hX 93 (t := 10) (j := 1) rfl yfl_LRun_28 (by decide) (by decide +kernel) (fun x23 => ?_)
      refine y_icge hX 94 367 rfl (by decide) ?_ ?_
      ·
        exact y_exit (fun w h => yj_wk (ρ' := [none, none, none, some (va_rf x7), none, none, none]) (qw_n (qw_n (qw_n (qw_s (qw_n (qw_n (qw_n (qw_0)))))))) h)
      ·
        refine y_aload_n hX 95 rfl rfl ?_
        refine y_getR hX 96 (t := 10) (j := 2) rfl yfl_LRun_14 (by decide) (by decide +kernel) (fun x24 => ?_)
        refine y_iload hX 97 rfl rfl ?_
        refine y_aald hX 98 (t := 4) (by decide) rfl (fun x25 => ?_)
        refine y_astore hX 99 (fun x26 => [some (va_rf this), none, some (va_rf x4), some (va_rf x7), some (yi s22), some (va_rf x26), none]) rfl (by decide) (fun _ => rfl) (fun x26 => ?_)
        refine y_aload_n hX 100 rfl rfl ?_
        refine y_bipush hX 101 59 rfl (by decide) ?_
        refine y_calR hX y_gRo (y_hrVo hX 102 (t := 11) (As := [yi (59 : Int)]) (a := x7) rfl ycw_LRun_77 (fun p e => by cases e; exact km_SB_append_cf468 (yk_G hX) p (59 : Int)) (by decide) ⟨rfl, rfl, rfl, by decide, by decide⟩ rfl (Nat.le_trans y_cn (by decide))) (fun x27 => ?_)
        refine y_aload_n hX 103 rfl rfl ?_
        refine y_aload hX 104 rfl rfl ?_
        refine y_iconst hX 105 0 rfl (by decide) ?_
        refine y_iald hX 106 rfl (fun x28 => ?_)
        refine y_aald hX 107 (t := 7) (by decide) rfl (fun x29 => ?_)
        refine y_calR hX y_gRo (y_hrVo hX 108 (t := 11) (As := [va_rf x29]) (a := x27) rfl ycw_LRun_73 (fun p e => by cases e; exact km_SB_append_15ec4 (yk_G hX) p x29) (by decide) ⟨rfl, rfl, rfl, by decide, by decide⟩ rfl (Nat.le_trans y_cn (by decide))) (fun x30 => ?_)
        refine y_pop hX 109 rfl (yc_D _) ?_
        refine y_aload hX 110 rfl rfl ?_
        refine y_iconst hX 111 0 rfl (by decide) ?_
        refine y_iald hX 112 rfl (fun x31 => ?_)
        refine y_iconst hX 113 3 rfl (by decide) ?_
        refine y_join (S := Unit) 203 (fun s32 => [some (va_rf this), none, some (va_rf x4), some (va_rf x7), some (yi s22), some (va_rf x26), none]) (fun s32 => []) ?_ ?_
        ·
          refine y_icne hX 114 203 rfl (by decide) ?_ ?_
          ·
            exact y_exit (fun w h => yj_wk (ρ' := [some (va_rf this), none, some (va_rf x4), some (va_rf x7), some (yi s22), some (va_rf x26), none]) (qw_s (qw_n (qw_s (qw_s (qw_s (qw_s (qw_n (qw_0)))))))) h)
          ·
            refine y_aload_n hX 115 rfl rfl ?_
            refine y_bipush hX 116 32 rfl (by decide) ?_
            refine y_calR hX y_gRo (y_hrVo hX 117 (t := 11) (As := [yi (32 : Int)]) (a := x7) rfl ycw_LRun_77 (fun p e => by cases e; exact km_SB_append_cf468 (yk_G hX) p (32 : Int)) (by decide) ⟨rfl, rfl, rfl, by decide, by decide⟩ rfl (Nat.le_trans y_cn (by decide))) (fun x33 => ?_)
            refine y_aload hX 118 rfl rfl ?_
            refine y_iconst hX 119 3 rfl (by decide) ?_
            refine y_iald hX 120 rfl (fun x34 => ?_)
            refine y_calR hX y_gRo (y_hrVo hX 121 (t := 11) (As := [yi x34]) (a := x33) rfl ycw_LRun_80 (fun p e => by cases e; exact km_SB_append_bf812 (yk_G hX) p x34) (by decide) ⟨rfl, rfl, rfl, by decide, by decide⟩ rfl (Nat.le_trans y_cn (by decide))) (fun x35 => ?_)
            refine y_pop hX 122 rfl (yc_D _) ?_
            exact y_exit (fun w h => yj_wk (ρ' := [some (va_rf this), none, some (va_rf x4), some (va_rf x7), some (yi s22), some (va_rf x26), none]) (qw_s (qw_n (qw_s (qw_s (qw_s (qw_s (qw_n (qw_0)))))))) h)
        · intro s32
          refine y_aload hX 123 rfl rfl ?_
          refine y_iconst hX 124 0 rfl (by decide) ?_
          refine y_iald hX 125 rfl (fun x36 => ?_)
          refine y_join (S := Unit) 232 (fun s37 => [some (va_rf this), none, some (va_rf x4), some (va_rf x7), some (yi s22), some (va_rf x26), none]) (fun s37 => []) ?_ ?_
          ·
            refine y_join2 (S := Unit) 218 (fun s38 => [some (va_rf this), none, some (va_rf x4), some (va_rf x7), some (yi s22), some (va_rf x26), none]) (fun s38 => []) ?_ ?_
            ·
              refine y_ifeq hX 126 218 rfl (by decide) ?_ ?_
              ·
                exact y_exit (fun w h => yj_wk (ρ' := [some (va_rf this), none, some (va_rf x4), some (va_rf x7), some (yi s22), some (va_rf x26), none]) (qw_s (qw_n (qw_s (qw_s (qw_s (qw_s (qw_n (qw_0)))))))) h)
              ·
                refine y_aload hX 127 rfl rfl ?_
                refine y_iconst hX 128 0 rfl (by decide) ?_
                refine y_iald hX 129 rfl (fun x39 => ?_)
                refine y_iconst hX 130 3 rfl (by decide) ?_
                refine y_icne hX 131 232 rfl (by decide) ?_ ?_
                ·
                  exact y_exit (fun w h => yj_wk (ρ' := [some (va_rf this), none, some (va_rf x4), some (va_rf x7), some (yi s22), some (va_rf x26), none]) (qw_s (qw_n (qw_s (qw_s (qw_s (qw_s (qw_n (qw_0)))))))) h)
                ·
                  exact y_exit (fun w h => yj_wk (ρ' := [some (va_rf this), none, some (va_rf x4), some (va_rf x7), some (yi s22), some (va_rf x26), none]) (qw_s (qw_n (qw_s (qw_s (qw_s (qw_s (qw_n (qw_0)))))))) h)
            · intro s38
              refine y_aload_n hX 132 rfl rfl ?_
              refine y_bipush hX 133 32 rfl (by decide) ?_
              refine y_calR hX y_gRo (y_hrVo hX 134 (t := 11) (As := [yi (32 : Int)]) (a := x7) rfl ycw_LRun_77 (fun p e => by cases e; exact km_SB_append_cf468 (yk_G hX) p (32 : Int)) (by decide) ⟨rfl, rfl, rfl, by decide, by decide⟩ rfl (Nat.le_trans y_cn (by decide))) (fun x40 => ?_)
              refine y_aload hX 135 rfl rfl ?_
              refine y_iconst hX 136 1 rfl (by decide) ?_
              refine y_iald hX 137 rfl (fun x41 => ?_)
              refine y_calR hX y_gRo (y_hrVo hX 138 (t := 11) (As := [yi x41]) (a := x40) rfl ycw_LRun_80 (fun p e => by cases e; exact km_SB_append_bf812 (yk_G hX) p x41) (by decide) ⟨rfl, rfl, rfl, by decide, by decide⟩ rfl (Nat.le_trans y_cn (by decide))) (fun x42 => ?_)
              refine y_pop hX 139 rfl (yc_D _) ?_
              exact y_exit (fun w h => yj_wk (ρ' := [some (va_rf this), none, some (va_rf x4), some (va_rf x7), some (yi s22), some (va_rf x26), none]) (qw_s (qw_n (qw_s (qw_s (qw_s (qw_s (qw_n (qw_0)))))))) h)
          · intro s37
            refine y_aload_n hX 140 rfl rfl ?_
            refine y_bipush hX 141 32 rfl (by decide) ?_
            refine y_calR hX y_gRo (y_hrVo hX 142 (t := 11) (As := [yi (32 : Int)]) (a := x7) rfl ycw_LRun_77 (fun p e => by cases e; exact km_SB_append_cf468 (yk_G hX) p (32 : Int)) (by decide) ⟨rfl, rfl, rfl, by decide, by decide⟩ rfl (Nat.le_trans y_cn (by decide))) (fun x43 => ?_)
            refine y_aload hX 143 rfl rfl ?_
            refine y_iconst hX 144 2 rfl (by decide) ?_
            refine y_iald hX 145 rfl (fun x44 => ?_)
            refine y_calR hX y_gRo (y_hrVo hX 146 (t := 11) (As := [yi x44]) (a := x43) rfl ycw_LRun_80 (fun p e => by cases e; exact km_SB_append_bf812 (yk_G hX) p x44) (by decide) ⟨rfl, rfl, rfl, by decide, by decide⟩ rfl (Nat.le_trans y_cn (by decide))) (fun x45 => ?_)
            refine y_pop hX 147 rfl (yc_D _) ?_
            refine y_aload hX 148 rfl rfl ?_
            refine y_iconst hX 149 4 rfl (by decide) ?_
            refine y_iald hX 150 rfl (fun x46 => ?_)
            refine y_iconst hX 151 1 rfl (by decide) ?_
            refine y_join (S := Unit) 261 (fun s47 => [some (va_rf this), none, some (va_rf x4), some (va_rf x7), some (yi s22), some (va_rf x26), none]) (fun s47 => []) ?_ ?_
            ·
              refine y_icne hX 152 261 rfl (by decide) ?_ ?_
              ·
                exact y_exit (fun w h => yj_wk (ρ' := [some (va_rf this), none, some (va_rf x4), some (va_rf x7), some (yi s22), some (va_rf x26), none]) (qw_s (qw_n (qw_s (qw_s (qw_s (qw_s (qw_n (qw_0)))))))) h)
              ·
                refine y_aload_n hX 153 rfl rfl ?_
                refine y_ldcS hX 154 16 (tx := " tied") rfl (by decide +kernel) ?_
                refine y_calR hX y_gRo (y_hrVo hX 155 (t := 11) (As := [va_rf (some (y_ad Y 16))]) (a := x7) rfl ycw_LRun_73 (fun p e => by cases e; exact km_SB_append_15ec4 (yk_G hX) p (some (y_ad Y 16))) (by decide) ⟨rfl, rfl, rfl, by decide, by decide⟩ rfl (Nat.le_trans y_cn (by decide))) (fun x48 => ?_)
                refine y_pop hX 156 rfl (yc_D _) ?_
                exact y_exit (fun w h => yj_wk (ρ' := [some (va_rf this), none, some (va_rf x4), some (va_rf x7), some (yi s22), some (va_rf x26), none]) (qw_s (qw_n (qw_s (qw_s (qw_s (qw_s (qw_n (qw_0)))))))) h)
            · intro s47
              refine y_aload hX 157 rfl rfl ?_
              refine y_iconst hX 158 5 rfl (by decide) ?_
              refine y_iald hX 159 rfl (fun x49 => ?_)
              refine y_iconst hX 160 1 rfl (by decide) ?_
              refine y_join (S := Unit) 276 (fun s50 => [some (va_rf this), none, some (va_rf x4), some (va_rf x7), some (yi s22), some (va_rf x26), none]) (fun s50 => []) ?_ ?_
              ·
                refine y_icne hX 161 276 rfl (by decide) ?_ ?_
                ·
                  exact y_exit (fun w h => yj_wk (ρ' := [some (va_rf this), none, some (va_rf x4), some (va_rf x7), some (yi s22), some (va_rf x26), none]) (qw_s (qw_n (qw_s (qw_s (qw_s (qw_s (qw_n (qw_0)))))))) h)
                ·
                  refine y_aload_n hX 162 rfl rfl ?_
                  refine y_ldcS hX 163 17 (tx := " whole") rfl (by decide +kernel) ?_
                  refine y_calR hX y_gRo (y_hrVo hX 164 (t := 11) (As := [va_rf (some (y_ad Y 17))]) (a := x7) rfl ycw_LRun_73 (fun p e => by cases e; exact km_SB_append_15ec4 (yk_G hX) p (some (y_ad Y 17))) (by decide) ⟨rfl, rfl, rfl, by decide, by decide⟩ rfl (Nat.le_trans y_cn (by decide))) (fun x51 => ?_)
                  refine y_pop hX 165 rfl (yc_D _) ?_
                  exact y_exit (fun w h => yj_wk (ρ' := [some (va_rf this), none, some (va_rf x4), some (va_rf x7), some (yi s22), some (va_rf x26), none]) (qw_s (qw_n (qw_s (qw_s (qw_s (qw_s (qw_n (qw_0)))))))) h)
              · intro s50
                refine y_aload hX 166 rfl rfl ?_
                refine y_bipush hX 167 6 rfl (by decide) ?_
                refine y_iald hX 168 rfl (fun x52 => ?_)
                refine y_join (S := Unit) 299 (fun s53 => [some (va_rf this), none, some (va_rf x4), some (va_rf x7), some (yi s22), none, none]) (fun s53 => []) ?_ ?_
                ·
                  refine y_ifle hX 169 299 rfl (by decide) ?_ ?_
                  ·
                    exact y_exit (fun w h => yj_wk (ρ' := [some (va_rf this), none, some (va_rf x4), some (va_rf x7), some (yi s22), none, none]) (qw_s (qw_n (qw_s (qw_s (qw_s (qw_n (qw_n (qw_0)))))))) h)
                  ·
                    refine y_aload_n hX 170 rfl rfl ?_
                    refine y_ldcS hX 171 18 (tx := " space ") rfl (by decide +kernel) ?_
                    refine y_calR hX y_gRo (y_hrVo hX 172 (t := 11) (As := [va_rf (some (y_ad Y 18))]) (a := x7) rfl ycw_LRun_73 (fun p e => by cases e; exact km_SB_append_15ec4 (yk_G hX) p (some (y_ad Y 18))) (by decide) ⟨rfl, rfl, rfl, by decide, by decide⟩ rfl (Nat.le_trans y_cn (by decide))) (fun x54 => ?_)
                    refine y_aload hX 173 rfl rfl ?_
                    refine y_bipush hX 174 6 rfl (by decide) ?_
                    refine y_iald hX 175 rfl (fun x55 => ?_)
                    refine y_calR hX y_gRo (y_hrVo hX 176 (t := 11) (As := [yi x55]) (a := x54) rfl ycw_LRun_80 (fun p e => by cases e; exact km_SB_append_bf812 (yk_G hX) p x55) (by decide) ⟨rfl, rfl, rfl, by decide, by decide⟩ rfl (Nat.le_trans y_cn (by decide))) (fun x56 => ?_)
                    refine y_pop hX 177 rfl (yc_D _) ?_
                    exact y_exit (fun w h => yj_wk (ρ' := [some (va_rf this), none, some (va_rf x4), some (va_rf x7), some (yi s22), none, none]) (qw_s (qw_n (qw_s (qw_s (qw_s (qw_n (qw_n (qw_0)))))))) h)
                · intro s53
                  refine y_iconst hX 178 0 rfl (by decide) ?_
                  refine y_istore hX 179 (fun x57 => [some (va_rf this), none, some (va_rf x4), some (va_rf x7), some (yi s22), none, some (yi x57)]) rfl (by decide) (fun _ => rfl) (fun x57 => ?_)
                  refine y_join (S := Unit) 361 (fun s58 => [some (va_rf this), none, some (va_rf x4), some (va_rf x7), some (yi s22), none, none]) (fun s58 => []) ?_ ?_
                  ·
                    refine y_loopw (S := Int) (x57) (fun s59 => [some (va_rf this), none, some (va_rf x4), some (va_rf x7), some (yi s22), none, some (yi s59)]) (qw_s (qw_n (qw_s (qw_s (qw_s (qw_n (qw_s (qw_0)))))))) (fun s59 => ?_)
                    refine y_iload hX 180 rfl rfl ?_
                    refine y_aload_n hX 181 rfl rfl ?_
                    refine y_getR hX 182 (t := 10) (j := 3) rfl yfl_LRun_18 (by decide) (by decide +kernel) (fun x60 => ?_)
                    refine y_iload hX 183 rfl rfl ?_
                    refine y_aald hX 184 (t := 4) (by decide) rfl (fun x61 => ?_)
                    refine y_alen hX 185 rfl (fun x62 => ?_)
                    refine y_icge hX 186 361 rfl (by decide) ?_ ?_
                    ·
                      exact y_exit (fun w h => yj_wk (ρ' := [some (va_rf this), none, some (va_rf x4), some (va_rf x7), some (yi s22), none, none]) (qw_s (qw_n (qw_s (qw_s (qw_s (qw_n (qw_n (qw_0)))))))) h)
                    ·
                      refine y_aload_n hX 187 rfl rfl ?_
                      refine y_ldcS hX 188 19 (tx := " mark ") rfl (by decide +kernel) ?_
                      refine y_calR hX y_gRo (y_hrVo hX 189 (t := 11) (As := [va_rf (some (y_ad Y 19))]) (a := x7) rfl ycw_LRun_73 (fun p e => by cases e; exact km_SB_append_15ec4 (yk_G hX) p (some (y_ad Y 19))) (by decide) ⟨rfl, rfl, rfl, by decide, by decide⟩ rfl (Nat.le_trans y_cn (by decide))) (fun x63 => ?_)
                      refine y_aload_n hX 190 rfl rfl ?_
                      refine y_getR hX 191 (t := 10) (j := 3) rfl yfl_LRun_18 (by decide) (by decide +kernel) (fun x64 => ?_)
                      refine y_iload hX 192 rfl rfl ?_
                      refine y_aald hX 193 (t := 4) (by decide) rfl (fun x65 => ?_)
                      refine y_iload hX 194 rfl rfl ?_
                      refine y_iald hX 195 rfl (fun x66 => ?_)
                      refine y_calR hX y_gRo (y_hrVo hX 196 (t := 11) (As := [yi x66]) (a := x63) rfl ycw_LRun_80 (fun p e => by cases e; exact km_SB_append_bf812 (yk_G hX) p x66) (by decide) ⟨rfl, rfl, rfl, by decide, by decide⟩ rfl (Nat.le_trans y_cn (by decide))) (fun x67 => ?_)
                      refine y_bipush hX 197 32 rfl (by decide) ?_
                      refine y_calR hX y_gRo (y_hrVo hX 198 (t := 11) (As := [yi (32 : Int)]) (a := x67) rfl ycw_LRun_77 (fun p e => by cases e; exact km_SB_append_cf468 (yk_G hX) p (32 : Int)) (by decide) ⟨rfl, rfl, rfl, by decide, by decide⟩ rfl (Nat.le_trans y_cn (by decide))) (fun x68 => ?_)
                      refine y_aload_n hX 199 rfl rfl ?_
                      refine y_getR hX 200 (t := 10) (j := 3) rfl yfl_LRun_18 (by decide) (by decide +kernel) (fun x69 => ?_)
                      refine y_iload hX 201 rfl rfl ?_
                      refine y_aald hX 202 (t := 4) (by decide) rfl (fun x70 => ?_)
                      refine y_iload hX 203 rfl rfl ?_
                      refine y_iconst hX 204 1 rfl (by decide) ?_
                      refine y_iadd hX 205 rfl ?_
                      refine y_iald hX 206 rfl (fun x71 => ?_)
                      refine y_calR hX y_gRo (y_hrVo hX 207 (t := 11) (As := [yi x71]) (a := x68) rfl ycw_LRun_80 (fun p e => by cases e; exact km_SB_append_bf812 (yk_G hX) p x71) (by decide) ⟨rfl, rfl, rfl, by decide, by decide⟩ rfl (Nat.le_trans y_cn (by decide))) (fun x72 => ?_)
                      refine y_pop hX 208 rfl (yc_D _) ?_
                      refine y_iinc hX 209 (fun x73 => [some (va_rf this), none, some (va_rf x4), some (va_rf x7), some (yi s22), none, some (yi x73)]) rfl (by decide) rfl (fun _ => rfl) (fun x73 => ?_)
                      exact y_exit (fun w h => yj_goto hX 210 rfl (by decide) (yj_wk (ρ' := [some (va_rf this), none, some (va_rf x4), some (va_rf x7), some (yi s22), none, some (yi x73)]) (qw_s (qw_n (qw_s (qw_s (qw_s (qw_n (qw_s (qw_0)))))))) h))
                  · intro s58
                    refine y_iinc hX 211 (fun x74 => [some (va_rf this), none, some (va_rf x4), some (va_rf x7), some (yi x74), none, none]) rfl (by decide) rfl (fun _ => rfl) (fun x74 => ?_)
                    exact y_exit (fun w h => yj_goto hX 212 rfl (by decide) (yj_wk (ρ' := [some (va_rf this), none, some (va_rf x4), some (va_rf x7), some (yi x74), none, none]) (qw_s (qw_n (qw_s (qw_s (qw_s (qw_n (qw_n (qw_0)))))))) h))
    · intro s21
      refine y_aload_n hX 213 rfl rfl ?_
      refine y_calR hX y_gRo (y_hrVo hX 214 (t := 11) (As := []) (a := x7) rfl ycw_LRun_91 (fun p e => by cases e; exact km_SB_toString (yk_G hX) p) (by decide) ⟨rfl, rfl, rfl, by decide, by decide⟩ rfl (Nat.le_trans y_cn (by decide))) (fun x75 => ?_)
      exact y_aret hX 215 rfl hR (fun _ h => h)
theorem km_LRun_told {l : Launch} {G : qm_G} {Y : yY} (hG : yGG G Y) (this : Option Nat) : yMM (yQr G Y) l G Y jy_LRun_told prog_12_method_5_code 7 (some (.object "java/lang/String")) 6 137 [va_rf this] (kf_LRun_told Y this) :=
  y_met (by decide +kernel) jd_LRun_told (fun v hv => by simp only [List.mem_cons, List.not_mem_nil, or_false] at hv; rcases hv with rfl <;> first | exact yc_D _ | rfl) (by exact Nat.le_of_ble_eq_true rfl) hG (fun X Fn r0 w0 hl hg hn hX hR => by subst hl; subst hg; exact kb_LRun_told hX ⟨⟨hR.1.1, hR.1.2, Or.inl ⟨_, rfl⟩⟩, hR.2⟩ this)
