def jl_Law_cell : List qm_I := [(0, .iload_n 1, 1, 1), (1, .aload_n 0, 1, 2), (2, .arraylength, 1, 3), (3, .if_icmp .ge 9, 3, 6), (6, .aload_n 0, 1, 7), (7, .iload_n 1, 1, 8), (8, .iaload, 1, 9), (9, .goto 11, 3, 12), (12, .sipush 16807, 3, 15), (15, .iload_n 1, 1, 16), (16, .imul, 1, 17), (17, .ldc 7, 2, 19), (19, .iadd, 1, 20), (20, .ireturn, 1, 21)]
theorem jd_Law_cell : qm_D method_2_code jl_Law_cell := qm_D_of (by decide +kernel)
noncomputable def kf_Law_cell (Y : yY) (p1 : Option Nat) (p2 : Int) : yM Int :=
  yB (yLn p1) fun x1 =>
  yB (yR2 p2 x1) fun _ =>
  if x1 ≤ p2 then
    yP (((16807 : Int) * p2) + (71001 : Int))
  else
    yB (yLd 1 p1 p2) fun x2 =>
    yP x2
set_option maxRecDepth 20000 in
set_option maxHeartbeats 4000000 in
theorem kb_Law_cell {X : qm_X} {Y : yY} {Fn : yFn} (hX : y_ok X Y Fn "ColumnsLevelledLaw" method_2_code 2 0 0 jl_Law_cell) {r0 : Int} {w0 : yW} (hR : y_RI X Y Fn r0 w0 .int) (p1 : Option Nat) (p2 : Int) : yb X Y Fn (kf_Law_cell Y p1 p2) 0 [some (va_rf p1), some (yi p2)] [] (fun r w1 => r = r0 ∧ w1 = w0) := by
  unfold kf_Law_cell
  refine y_iload_n hX 0 rfl rfl ?_
  refine y_aload_n hX 1 rfl rfl ?_
  refine y_alen hX 2 rfl (fun x1 => ?_)
  refine y_icge hX 3 12 rfl (by decide) ?_ ?_
  ·
    refine y_sipush hX 8 16807 rfl (by decide) ?_
    refine y_iload_n hX 9 rfl rfl ?_
    refine y_imul hX 10 rfl ?_
    refine y_ldc hX 11 71001 rfl ykc_Law_7 ?_
    refine y_iadd hX 12 rfl ?_
    exact y_iret hX 13 rfl hR (fun _ h => h)
  ·
    refine y_aload_n hX 4 rfl rfl ?_
    refine y_iload_n hX 5 rfl rfl ?_
    refine y_iald hX 6 rfl (fun x2 => ?_)
    refine y_goto hX 7 (tgt := 20) rfl (by decide) ?_
    exact y_iret hX 13 rfl hR (fun _ h => h)
theorem km_Law_cell {l : Launch} {G : qm_G} {Y : yY} (hG : yGG G Y) (p1 : Option Nat) (p2 : Int) : yMM (yQi G Y) l G Y jy_Law_cell method_2_code 2 (some .int) 0 0 [va_rf p1, yi p2] (kf_Law_cell Y p1 p2) :=
  y_met (by decide +kernel) jd_Law_cell (fun v hv => by simp only [List.mem_cons, List.not_mem_nil, or_false] at hv; rcases hv with rfl | rfl <;> first | exact yc_D _ | rfl) (by exact Nat.le_of_ble_eq_true rfl) hG (fun X Fn r0 w0 hl hg hn hX hR => by subst hl; subst hg; exact kb_Law_cell hX hR p1 p2)
def jl_LRun_init : List qm_I := [(0, .aload_n 0, 1, 1), (1, .invokespecial 1, 3, 4), (4, .aload_n 0, 1, 5), (5, .bipush 8, 2, 7), (7, .newarray .int, 2, 9), (9, .dup, 1, 10), (10, .iconst 0, 1, 11), (11, .iconst 2, 1, 12), (12, .iastore, 1, 13), (13, .dup, 1, 14), (14, .iconst 1, 1, 15), (15, .bipush 60, 2, 17), (17, .iastore, 1, 18), (18, .dup, 1, 19), (19, .iconst 2, 1, 20), (20, .iconst 2, 1, 21), (21, .iastore, 1, 22), (22, .dup, 1, 23), (23, .iconst 3, 1, 24), (24, .iconst 2, 1, 25), (25, .iastore, 1, 26), (26, .dup, 1, 27), (27, .iconst 4, 1, 28), (28, .iconst 2, 1, 29), (29, .iastore, 1, 30), (30, .dup, 1, 31), (31, .iconst 5, 1, 32), (32, .iconst 1, 1, 33), (33, .iastore, 1, 34), (34, .dup, 1, 35), (35, .bipush 6, 2, 37), (37, .iconst 1, 1, 38), (38, .iastore, 1, 39), (39, .dup, 1, 40), (40, .bipush 7, 2, 42), (42, .iconst 0, 1, 43), (43, .iastore, 1, 44), (44, .putfield 7, 3, 47), (47, .aload_n 0, 1, 48), (48, .bipush 17, 2, 50), (50, .anewarray 13, 3, 53), (53, .putfield 14, 3, 56), (56, .aload_n 0, 1, 57), (57, .bipush 17, 2, 59), (59, .anewarray 13, 3, 62), (62, .putfield 18, 3, 65), (65, .return_, 1, 66)]
theorem jd_LRun_init : qm_D prog_12_method_1_code jl_LRun_init := qm_D_of (by decide +kernel)
noncomputable def kf_LRun_init (Y : yY) (this : Option Nat) : yM Unit :=
  yB (yNn this) fun _ =>
  yB (yNa 1 (8 : Int)) fun x1 =>
  yB (ySt x1 (0 : Int) (2 : Int)) fun _ =>
  yB (ySt x1 (1 : Int) (60 : Int)) fun _ =>
  yB (ySt x1 (2 : Int) (2 : Int)) fun _ =>
  yB (ySt x1 (3 : Int) (2 : Int)) fun _ =>
  yB (ySt x1 (4 : Int) (2 : Int)) fun _ =>
  yB (ySt x1 (5 : Int) (1 : Int)) fun _ =>
  yB (ySt x1 (6 : Int) (1 : Int)) fun _ =>
  yB (ySt x1 (7 : Int) (0 : Int)) fun _ =>
  yB (yPr 20 this 0 x1) fun _ =>
  yB (yNa 4 (17 : Int)) fun x2 =>
  yB (yPr 20 this 2 x2) fun _ =>
  yB (yNa 4 (17 : Int)) fun x3 =>
  yB (yPr 20 this 3 x3) fun _ =>
  yP ()
set_option maxRecDepth 20000 in
set_option maxHeartbeats 4000000 in
theorem kb_LRun_init {X : qm_X} {Y : yY} {Fn : yFn} (hX : y_ok X Y Fn qr_LRun prog_12_method_1_code 1 1 12 jl_LRun_init) {w0 : yW} (hR : y_RV X Y Fn w0) (hN : (qx_meth X).name = "<init>") (this : Option Nat) : yb X Y Fn (kf_LRun_init Y this) 0 [some (va_rf this)] [] (fun r w1 => r = () ∧ w1 = w0) := by
  unfold kf_LRun_init
  refine y_aload_n hX 0 rfl rfl ?_
  refine y_objO hX 1 rfl yob_LRun_1 ⟨by decide, by decide⟩ ?_
  refine y_aload_n hX 2 rfl rfl ?_
  refine y_bipush hX 3 8 rfl (by decide) ?_
  refine y_newa hX 4 (t := 1) rfl zw_int rfl (by decide) (fun x1 => ?_)
  refine y_dup hX 5 rfl (yc_D _) ?_
  refine y_iconst hX 6 0 rfl (by decide) ?_
  refine y_iconst hX 7 2 rfl (by decide) ?_
  refine y_iast hX 8 rfl ?_
  refine y_dup hX 9 rfl (yc_D _) ?_
  refine y_iconst hX 10 1 rfl (by decide) ?_
  refine y_bipush hX 11 60 rfl (by decide) ?_
  refine y_iast hX 12 rfl ?_
  refine y_dup hX 13 rfl (yc_D _) ?_
  refine y_iconst hX 14 2 rfl (by decide) ?_
  refine y_iconst hX 15 2 rfl (by decide) ?_
  refine y_iast hX 16 rfl ?_
  refine y_dup hX 17 rfl (yc_D _) ?_
  refine y_iconst hX 18 3 rfl (by decide) ?_
  refine y_iconst hX 19 2 rfl (by decide) ?_
  refine y_iast hX 20 rfl ?_
  refine y_dup hX 21 rfl (yc_D _) ?_
  refine y_iconst hX 22 4 rfl (by decide) ?_
  refine y_iconst hX 23 2 rfl (by decide) ?_
  refine y_iast hX 24 rfl ?_
  refine y_dup hX 25 rfl (yc_D _) ?_
  refine y_iconst hX 26 5 rfl (by decide) ?_
  refine y_iconst hX 27 1 rfl (by decide) ?_
  refine y_iast hX 28 rfl ?_
  refine y_dup hX 29 rfl (yc_D _) ?_
  refine y_bipush hX 30 6 rfl (by decide) ?_
  refine y_iconst hX 31 1 rfl (by decide) ?_
  refine y_iast hX 32 rfl ?_
  refine y_dup hX 33 rfl (yc_D _) ?_
  refine y_bipush hX 34 7 rfl (by decide) ?_
  refine y_iconst hX 35 0 rfl (by decide) ?_
  refine y_iast hX 36 rfl ?_
  refine y_putR hX 37 1 (t := 10) (j := 0) rfl yfp_LRun_7 (fun _ => hN) (by decide) (by decide +kernel) (by first | exact Or.inr ⟨_, rfl⟩ | exact Or.inl ⟨_, rfl⟩) ?_
  refine y_aload_n hX 38 rfl rfl ?_
  refine y_bipush hX 39 17 rfl (by decide) ?_
  refine y_anewA hX 40 rfl ycl_LRun_13 (fun x2 => ?_)
  refine y_putR hX 41 1 (t := 10) (j := 2) rfl yfp_LRun_14 (fun _ => hN) (by decide) (by decide +kernel) (by first | exact Or.inr ⟨_, rfl⟩ | exact Or.inl ⟨_, rfl⟩) ?_
  refine y_aload_n hX 42 rfl rfl ?_
  refine y_bipush hX 43 17 rfl (by decide) ?_
  refine y_anewA hX 44 rfl ycl_LRun_13 (fun x3 => ?_)
  refine y_putR hX 45 1 (t := 10) (j := 3) rfl yfp_LRun_18 (fun _ => hN) (by decide) (by decide +kernel) (by first | exact Or.inr ⟨_, rfl⟩ | exact Or.inl ⟨_, rfl⟩) ?_
  exact y_vret hX 46 rfl hR (fun _ h => And.right h)
theorem km_LRun_init {l : Launch} {G : qm_G} {Y : yY} (hG : yGG G Y) (this : Option Nat) : yMM (yQv G Y) l G Y jy_LRun_init prog_12_method_1_code 1 none 1 12 [va_rf this] (kf_LRun_init Y this) :=
  y_met (by decide +kernel) jd_LRun_init (fun v hv => by simp only [List.mem_cons, List.not_mem_nil, or_false] at hv; rcases hv with rfl <;> first | exact yc_D _ | rfl) (by exact Nat.le_of_ble_eq_true rfl) hG (fun X Fn r0 w0 hl hg hn hX hR => by subst hl; subst hg; exact kb_LRun_init hX hR hn this)
def jl_LRun_adds : List qm_I := [(0, .aload_n 0, 1, 1), (1, .getfield 14, 3, 4), (4, .aload_n 0, 1, 5), (5, .getfield 28, 3, 8), (8, .aload_n 1, 1, 9), (9, .aastore, 1, 10), (10, .aload_n 0, 1, 11), (11, .getfield 18, 3, 14), (14, .aload_n 0, 1, 15), (15, .getfield 28, 3, 18), (18, .aload_n 2, 1, 19), (19, .aastore, 1, 20), (20, .aload_n 0, 1, 21), (21, .dup, 1, 22), (22, .getfield 28, 3, 25), (25, .iconst 1, 1, 26), (26, .iadd, 1, 27), (27, .putfield 28, 3, 30), (30, .return_, 1, 31)]
theorem jd_LRun_adds : qm_D prog_12_method_3_code jl_LRun_adds := qm_D_of (by decide +kernel)
noncomputable def kf_LRun_adds (Y : yY) (this : Option Nat) (p1 : Option Nat) (p2 : Option Nat) : yM Unit :=
  yB (yGr 20 this 2) fun x1 =>
  yB (yGt 20 this 1) fun x2 =>
  yB (ySr 4 1 x1 x2 p1) fun _ =>
  yB (yGr 20 this 3) fun x3 =>
  yB (yGt 20 this 1) fun x4 =>
  yB (ySr 4 1 x3 x4 p2) fun _ =>
  yB (yGt 20 this 1) fun x5 =>
  yB (yPt 20 this 1 (x5 + (1 : Int))) fun _ =>
  yP ()
set_option maxRecDepth 20000 in
set_option maxHeartbeats 4000000 in
theorem kb_LRun_adds {X : qm_X} {Y : yY} {Fn : yFn} (hX : y_ok X Y Fn qr_LRun prog_12_method_3_code 3 0 0 jl_LRun_adds) {w0 : yW} (hR : y_RV X Y Fn w0) (this : Option Nat) (p1 : Option Nat) (p2 : Option Nat) : yb X Y Fn (kf_LRun_adds Y this p1 p2) 0 [some (va_rf this), some (va_rf p1), some (va_rf p2)] [] (fun r w1 => r = () ∧ w1 = w0) := by
  unfold kf_LRun_adds
  refine y_aload_n hX 0 rfl rfl ?_
  refine y_getR hX 1 (t := 10) (j := 2) rfl yfl_LRun_14 (by decide) (by decide +kernel) (fun x1 => ?_)
  refine y_aload_n hX 2 rfl rfl ?_
  refine y_get hX 3 (t := 10) (j := 1) rfl yfl_LRun_28 (by decide) (by decide +kernel) (fun x2 => ?_)
  refine y_aload_n hX 4 rfl rfl ?_
  refine y_aast hX 5 (t := 4) (t' := 1) (by decide) rfl ?_
  refine y_aload_n hX 6 rfl rfl ?_
  refine y_getR hX 7 (t := 10) (j := 3) rfl yfl_LRun_18 (by decide) (by decide +kernel) (fun x3 => ?_)
  refine y_aload_n hX 8 rfl rfl ?_
  refine y_get hX 9 (t := 10) (j := 1) rfl yfl_LRun_28 (by decide) (by decide +kernel) (fun x4 => ?_)
  refine y_aload_n hX 10 rfl rfl ?_
  refine y_aast hX 11 (t := 4) (t' := 1) (by decide) rfl ?_
  refine y_aload_n hX 12 rfl rfl ?_
  refine y_dup hX 13 rfl (yc_D _) ?_
  refine y_get hX 14 (t := 10) (j := 1) rfl yfl_LRun_28 (by decide) (by decide +kernel) (fun x5 => ?_)
  refine y_iconst hX 15 1 rfl (by decide) ?_
  refine y_iadd hX 16 rfl ?_
  refine y_putI hX 17 0 (t := 10) (j := 1) rfl yfp_LRun_28 (fun h => absurd h (by decide)) (by decide) (by decide +kernel) ?_
  exact y_vret hX 18 rfl hR (fun _ h => And.right h)
theorem km_LRun_adds {l : Launch} {G : qm_G} {Y : yY} (hG : yGG G Y) (this : Option Nat) (p1 : Option Nat) (p2 : Option Nat) : yMM (yQv G Y) l G Y jy_LRun_adds prog_12_method_3_code 3 none 0 0 [va_rf this, va_rf p1, va_rf p2] (kf_LRun_adds Y this p1 p2) :=
  y_met (by decide +kernel) jd_LRun_adds (fun v hv => by simp only [List.mem_cons, List.not_mem_nil, or_false] at hv; rcases hv with rfl | rfl | rfl <;> first | exact yc_D _ | rfl) (by exact Nat.le_of_ble_eq_true rfl) hG (fun X Fn r0 w0 hl hg hn hX hR => by subst hl; subst hg; exact kb_LRun_adds hX hR this p1 p2)
def jl_LRun_pieces : List qm_I := [(0, .iconst 0, 1, 1), (1, .istore_n 1, 1, 2), (2, .iconst 0, 1, 3), (3, .istore_n 2, 1, 4), (4, .iload_n 2, 1, 5), (5, .aload_n 0, 1, 6), (6, .getfield 28, 3, 9), (9, .if_icmp .ge 20, 3, 12), (12, .iload_n 1, 1, 13), (13, .aload_n 0, 1, 14), (14, .getfield 14, 3, 17), (17, .iload_n 2, 1, 18), (18, .aaload, 1, 19), (19, .iconst 1, 1, 20), (20, .iaload, 1, 21), (21, .iadd, 1, 22), (22, .istore_n 1, 1, 23), (23, .iinc 2 1, 3, 26), (26, .goto (-22), 3, 29), (29, .iload_n 1, 1, 30), (30, .ireturn, 1, 31)]
theorem jd_LRun_pieces : qm_D prog_12_method_4_code jl_LRun_pieces := qm_D_of (by decide +kernel)
noncomputable def kf_LRun_pieces (Y : yY) (this : Option Nat) : yM Int :=
  yB (yP (0 : Int)) fun x1 =>
  yB (yP (0 : Int)) fun x2 =>
  yB (α := Int) (
    yLp (S := Int × Int) (α := Int) (fun s4 =>
      yB (yGt 20 this 1) fun x5 =>
      yB (yR2 s4.2 x5) fun _ =>
      if x5 ≤ s4.2 then
        yP (Sum.inr s4.1)
      else
        yB (yGr 20 this 2) fun x6 =>
        yB (yLr 4 x6 s4.2) fun x7 =>
        yB (yLd 1 x7 (1 : Int)) fun x8 =>
        yB (yP (s4.1 + x8)) fun x9 =>
        yB (yP (s4.2 + 1)) fun x10 =>
        yP (Sum.inl (x9, x10))) (x1, x2)) fun s3 =>
  yP s3
set_option maxRecDepth 20000 in
set_option maxHeartbeats 4000000 in
theorem kb_LRun_pieces {X : qm_X} {Y : yY} {Fn : yFn} (hX : y_ok X Y Fn qr_LRun prog_12_method_4_code 3 0 0 jl_LRun_pieces) {r0 : Int} {w0 : yW} (hR : y_RI X Y Fn r0 w0 .int) (this : Option Nat) : yb X Y Fn (kf_LRun_pieces Y this) 0 [some (va_rf this), none, none] [] (fun r w1 => r = r0 ∧ w1 = w0) := by
  unfold kf_LRun_pieces
  refine y_iconst hX 0 0 rfl (by decide) ?_
  refine y_istore_n hX 1 (fun x1 => [some (va_rf this), some (yi x1), none]) rfl (by decide) (fun _ => rfl) (fun x1 => ?_)
  refine y_iconst hX 2 0 rfl (by decide) ?_
  refine y_istore_n hX 3 (fun x2 => [some (va_rf this), some (yi x1), some (yi x2)]) rfl (by decide) (fun _ => rfl) (fun x2 => ?_)
  refine y_join (S := Int) 29 (fun s3 => [none, some (yi s3), none]) (fun s3 => []) ?_ ?_
  ·
    refine y_loopw (S := Int × Int) ((x1, x2)) (fun s4 => [some (va_rf this), some (yi s4.1), some (yi s4.2)]) (qw_s (qw_s (qw_s (qw_0)))) (fun s4 => ?_)
    refine y_iload_n hX 4 rfl rfl ?_
    refine y_aload_n hX 5 rfl rfl ?_
    refine y_get hX 6 (t := 10) (j := 1) rfl yfl_LRun_28 (by decide) (by decide +kernel) (fun x5 => ?_)
    refine y_icge hX 7 29 rfl (by decide) ?_ ?_
    ·
      exact y_exit (fun w h => yj_wk (ρ' := [none, some (yi s4.1), none]) (qw_n (qw_s (qw_n (qw_0)))) h)
    ·
      refine y_iload_n hX 8 rfl rfl ?_
      refine y_aload_n hX 9 rfl rfl ?_
      refine y_getR hX 10 (t := 10) (j := 2) rfl yfl_LRun_14 (by decide) (by decide +kernel) (fun x6 => ?_)
      refine y_iload_n hX 11 rfl rfl ?_
      refine y_aald hX 12 (t := 4) (by decide) rfl (fun x7 => ?_)
      refine y_iconst hX 13 1 rfl (by decide) ?_
      refine y_iald hX 14 rfl (fun x8 => ?_)
      refine y_iadd hX 15 rfl ?_
      refine y_istore_n hX 16 (fun x9 => [some (va_rf this), some (yi x9), some (yi s4.2)]) rfl (by decide) (fun _ => rfl) (fun x9 => ?_)
      refine y_iinc hX 17 (fun x10 => [some (va_rf this), some (yi x9), some (yi x10)]) rfl (by decide) rfl (fun _ => rfl) (fun x10 => ?_)
      exact y_exit (fun w h => yj_goto hX 18 rfl (by decide) (yj_wk (ρ' := [some (va_rf this), some (yi x9), some (yi x10)]) (qw_s (qw_s (qw_s (qw_0)))) h))
  · intro s3
    refine y_iload_n hX 19 rfl rfl ?_
    exact y_iret hX 20 rfl hR (fun _ h => h)
theorem km_LRun_pieces {l : Launch} {G : qm_G} {Y : yY} (hG : yGG G Y) (this : Option Nat) : yMM (yQi G Y) l G Y jy_LRun_pieces prog_12_method_4_code 3 (some .int) 0 0 [va_rf this] (kf_LRun_pieces Y this) :=
  y_met (by decide +kernel) jd_LRun_pieces (fun v hv => by simp only [List.mem_cons, List.not_mem_nil, or_false] at hv; rcases hv with rfl <;> first | exact yc_D _ | rfl) (by exact Nat.le_of_ble_eq_true rfl) hG (fun X Fn r0 w0 hl hg hn hX hR => by subst hl; subst hg; exact kb_LRun_pieces hX hR this)
def jl_LRun_copy : List qm_I := [(0, .new 8, 3, 3), (3, .dup, 1, 4), (4, .invokespecial 21, 3, 7), (7, .astore_n 1, 1, 8), (8, .aload_n 0, 1, 9), (9, .getfield 7, 3, 12), (12, .iconst 0, 1, 13), (13, .aload_n 1, 1, 14), (14, .getfield 7, 3, 17), (17, .iconst 0, 1, 18), (18, .bipush 8, 2, 20), (20, .invokestatic 22, 3, 23), (23, .aload_n 1, 1, 24), (24, .aload_n 0, 1, 25), (25, .getfield 28, 3, 28), (28, .putfield 28, 3, 31), (31, .iconst 0, 1, 32), (32, .istore_n 2, 1, 33), (33, .iload_n 2, 1, 34), (34, .aload_n 0, 1, 35), (35, .getfield 28, 3, 38), (38, .if_icmp .ge 39, 3, 41), (41, .aload_n 1, 1, 42), (42, .getfield 14, 3, 45), (45, .iload_n 2, 1, 46), (46, .aload_n 0, 1, 47), (47, .getfield 14, 3, 50), (50, .iload_n 2, 1, 51), (51, .aaload, 1, 52), (52, .invokevirtual 32, 3, 55), (55, .checkcast 13, 3, 58), (58, .aastore, 1, 59), (59, .aload_n 1, 1, 60), (60, .getfield 18, 3, 63), (63, .iload_n 2, 1, 64), (64, .aload_n 0, 1, 65), (65, .getfield 18, 3, 68), (68, .iload_n 2, 1, 69), (69, .aaload, 1, 70), (70, .aastore, 1, 71), (71, .iinc 2 1, 3, 74), (74, .goto (-41), 3, 77), (77, .aload_n 1, 1, 78), (78, .areturn, 1, 79)]
theorem jd_LRun_copy : qm_D prog_12_method_2_code jl_LRun_copy := qm_D_of (by decide +kernel)
noncomputable def kf_LRun_copy (Y : yY) (this : Option Nat) : yM (Option Nat) :=
  yB (yNo 20) fun x1 =>
  yB (yKr 20 x1 (kf_LRun_init Y x1)) fun _ =>
  yB (yP x1) fun x3 =>
  yB (yGr 20 this 0) fun x4 =>
  yB (yGr 20 x3 0) fun x5 =>
  yB (yCp 1 x4 (0 : Int) x5 (0 : Int) (8 : Int)) fun _ =>
  yB (yGt 20 this 1) fun x6 =>
  yB (yPt 20 x3 1 x6) fun _ =>
  yB (yP (0 : Int)) fun x7 =>
  yB (α := Unit) (
    yLp (S := Int) (α := Unit) (fun s9 =>
      yB (yGt 20 this 1) fun x10 =>
      yB (yR2 s9 x10) fun _ =>
      if x10 ≤ s9 then
        yP (Sum.inr ())
      else
        yB (yGr 20 x3 2) fun x11 =>
        yB (yGr 20 this 2) fun x12 =>
        yB (yLr 4 x12 s9) fun x13 =>
        yB (yCl x13) fun x14 =>
        yB (yKd 1 x14) fun _ =>
        yB (ySr 4 1 x11 s9 x14) fun _ =>
        yB (yGr 20 x3 3) fun x15 =>
        yB (yGr 20 this 3) fun x16 =>
        yB (yLr 4 x16 s9) fun x17 =>
        yB (ySr 4 1 x15 s9 x17) fun _ =>
        yB (yP (s9 + 1)) fun x18 =>
        yP (Sum.inl x18)) x7) fun s8 =>
  yB (yNn x3) fun _ =>
  yP x3
set_option maxRecDepth 20000 in
set_option maxHeartbeats 4000000 in
theorem kb_LRun_copy {X : qm_X} {Y : yY} {Fn : yFn} (hX : y_ok X Y Fn qr_LRun prog_12_method_2_code 3 2 32 jl_LRun_copy) {r0 : Option Nat} {w0 : yW} (hR : y_RR X Y Fn r0 w0 (.object "ColumnsLevelledLaw$Run")) (this : Option Nat) : yb X Y Fn (kf_LRun_copy Y this) 0 [some (va_rf this), none, none] [] (fun r w1 => r = r0 ∧ w1 = w0) := by
  unfold kf_LRun_copy
  refine y_new hX 0 (t := 10) rfl yn_LRun_8 (by decide) (fun x1 => ?_)
  refine y_dup hX 1 rfl (yc_D _) ?_
  refine y_calV hX y_gRo (y_hrIo hX 2 (t := 10) (As := []) (a := x1) rfl ycw_LRun_21 (fun p e => by cases e; exact km_LRun_init (yk_G hX) p) ⟨rfl, by decide, by decide⟩ rfl (Nat.le_trans (y_cs (yc_D _) y_cn) (by decide))) ?_
  refine y_astore_n hX 3 (fun x3 => [some (va_rf this), some (va_rf x3), none]) rfl (by decide) (fun _ => rfl) (fun x3 => ?_)
  refine y_aload_n hX 4 rfl rfl ?_
  refine y_getR hX 5 (t := 10) (j := 0) rfl yfl_LRun_7 (by decide) (by decide +kernel) (fun x4 => ?_)
  refine y_iconst hX 6 0 rfl (by decide) ?_
  refine y_aload_n hX 7 rfl rfl ?_
  refine y_getR hX 8 (t := 10) (j := 0) rfl yfl_LRun_7 (by decide) (by decide +kernel) (fun x5 => ?_)
  refine y_iconst hX 9 0 rfl (by decide) ?_
  refine y_bipush hX 10 8 rfl (by decide) ?_
  refine y_copy hX 11 (t := 1) (by decide) rfl yac_LRun_22 yar_1 yar_2 yar_3 ⟨by decide, by decide⟩ (Nat.le_trans y_cn (by decide)) ?_
  refine y_aload_n hX 12 rfl rfl ?_
  refine y_aload_n hX 13 rfl rfl ?_
  refine y_get hX 14 (t := 10) (j := 1) rfl yfl_LRun_28 (by decide) (by decide +kernel) (fun x6 => ?_)
  refine y_putI hX 15 0 (t := 10) (j := 1) rfl yfp_LRun_28 (fun h => absurd h (by decide)) (by decide) (by decide +kernel) ?_
  refine y_iconst hX 16 0 rfl (by decide) ?_
  refine y_istore_n hX 17 (fun x7 => [some (va_rf this), some (va_rf x3), some (yi x7)]) rfl (by decide) (fun _ => rfl) (fun x7 => ?_)
  refine y_join (S := Unit) 77 (fun s8 => [none, some (va_rf x3), none]) (fun s8 => []) ?_ ?_
  ·
    refine y_loopw (S := Int) (x7) (fun s9 => [some (va_rf this), some (va_rf x3), some (yi s9)]) (qw_s (qw_s (qw_s (qw_0)))) (fun s9 => ?_)
    refine y_iload_n hX 18 rfl rfl ?_
    refine y_aload_n hX 19 rfl rfl ?_
    refine y_get hX 20 (t := 10) (j := 1) rfl yfl_LRun_28 (by decide) (by decide +kernel) (fun x10 => ?_)
    refine y_icge hX 21 77 rfl (by decide) ?_ ?_
    ·
      exact y_exit (fun w h => yj_wk (ρ' := [none, some (va_rf x3), none]) (qw_n (qw_s (qw_n (qw_0)))) h)
    ·
      refine y_aload_n hX 22 rfl rfl ?_
      refine y_getR hX 23 (t := 10) (j := 2) rfl yfl_LRun_14 (by decide) (by decide +kernel) (fun x11 => ?_)
      refine y_iload_n hX 24 rfl rfl ?_
      refine y_aload_n hX 25 rfl rfl ?_
      refine y_getR hX 26 (t := 10) (j := 2) rfl yfl_LRun_14 (by decide) (by decide +kernel) (fun x12 => ?_)
      refine y_iload_n hX 27 rfl rfl ?_
      refine y_aald hX 28 (t := 4) (by decide) rfl (fun x13 => ?_)
      refine y_clone hX 29 rfl yct_LRun_32 yct_1 yct_2 yct_3 yct_4 ⟨by decide, by decide⟩ (Nat.le_trans (y_cs (yc_I _) (y_cs (yc_D _) y_cn)) (by decide)) (fun x14 => ?_)
      refine y_castI hX 30 rfl ycl_LRun_13 ?_
      refine y_aast hX 31 (t := 4) (t' := 1) (by decide) rfl ?_
      refine y_aload_n hX 32 rfl rfl ?_
      refine y_getR hX 33 (t := 10) (j := 3) rfl yfl_LRun_18 (by decide) (by decide +kernel) (fun x15 => ?_)
      refine y_iload_n hX 34 rfl rfl ?_
      refine y_aload_n hX 35 rfl rfl ?_
      refine y_getR hX 36 (t := 10) (j := 3) rfl yfl_LRun_18 (by decide) (by decide +kernel) (fun x16 => ?_)
      refine y_iload_n hX 37 rfl rfl ?_
      refine y_aald hX 38 (t := 4) (by decide) rfl (fun x17 => ?_)
      refine y_aast hX 39 (t := 4) (t' := 1) (by decide) rfl ?_
      refine y_iinc hX 40 (fun x18 => [some (va_rf this), some (va_rf x3), some (yi x18)]) rfl (by decide) rfl (fun _ => rfl) (fun x18 => ?_)
      exact y_exit (fun w h => yj_goto hX 41 rfl (by decide) (yj_wk (ρ' := [some (va_rf this), some (va_rf x3), some (yi x18)]) (qw_s (qw_s (qw_s (qw_0)))) h))
  · intro s8
    refine y_aload_n hX 42 rfl rfl ?_
    exact y_aret hX 43 rfl hR (fun _ h => h)
theorem km_LRun_copy {l : Launch} {G : qm_G} {Y : yY} (hG : yGG G Y) (this : Option Nat) : yMM (yQr G Y) l G Y jy_LRun_copy prog_12_method_2_code 3 (some (.object "ColumnsLevelledLaw$Run")) 2 32 [va_rf this] (kf_LRun_copy Y this) :=
  y_met (by decide +kernel) jd_LRun_copy (fun v hv => by simp only [List.mem_cons, List.not_mem_nil, or_false] at hv; rcases hv with rfl <;> first | exact yc_D _ | rfl) (by exact Nat.le_of_ble_eq_true rfl) hG (fun X Fn r0 w0 hl hg hn hX hR => by subst hl; subst hg; exact kb_LRun_copy hX ⟨⟨hR.1.1, hR.1.2, Or.inl ⟨_, rfl⟩⟩, hR.2⟩ this)
