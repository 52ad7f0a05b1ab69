def jl_ASB_putStringAt : List qm_I := [(0, .aload_n 0, 1, 1), (1, .aload_n 2, 1, 2), (2, .invokevirtual 397, 3, 5), (5, .aload_n 2, 1, 6), (6, .aload_n 0, 1, 7), (7, .getfield 15, 3, 10), (10, .iload_n 1, 1, 11), (11, .aload_n 0, 1, 12), (12, .getfield 22, 3, 15), (15, .invokevirtual 399, 3, 18), (18, .return_, 1, 19)]
theorem jd_ASB_putStringAt : qm_D prog_14_method_73_code jl_ASB_putStringAt := qm_D_of (by decide +kernel)
noncomputable def kf_ASB_putStringAt (Y : yY) (this : Option Nat) (p1 : Int) (p2 : Option Nat) : yM Unit :=
  yB (yKr 21 this (kf_ASB_inflateIfNeededFor Y this p2)) fun _ =>
  yB (yGr 21 this 0) fun x2 =>
  yB (yGt 21 this 1) fun x3 =>
  yB (yKr 22 p2 (kf_String_getBytes Y p2 x2 p1 x3)) fun _ =>
  yP ()
set_option maxRecDepth 20000 in
set_option maxHeartbeats 4000000 in
theorem kb_ASB_putStringAt {X : qm_X} {Y : yY} {Fn : yFn} (hX : y_ok X Y Fn "java/lang/AbstractStringBuilder" prog_14_method_73_code 3 2 49 jl_ASB_putStringAt) {w0 : yW} (hR : y_RV X Y Fn w0) (this : Option Nat) (p1 : Int) (p2 : Option Nat) : yb X Y Fn (kf_ASB_putStringAt Y this p1 p2) 0 [some (va_rf this), some (yi p1), some (va_rf p2)] [] (fun r w1 => r = () ∧ w1 = w0) := by
  unfold kf_ASB_putStringAt
  refine y_aload_n hX 0 rfl rfl ?_
  refine y_aload_n hX 1 rfl rfl ?_
  refine y_calV hX y_gRo (y_hrUo hX 2 (t := 11) (As := [va_rf p2]) (a := this) rfl ycw_ASB_397 (fun p e => by cases e; exact km_ASB_inflateIfNeededFor (yk_G hX) p p2) (by decide) ⟨rfl, rfl, rfl, by decide, by decide⟩ rfl (Nat.le_trans y_cn (by decide))) ?_
  refine y_aload_n hX 3 rfl rfl ?_
  refine y_aload_n hX 4 rfl rfl ?_
  refine y_getR hX 5 (t := 11) (j := 0) rfl yfl_ASB_15 (by decide) (by decide +kernel) (fun x2 => ?_)
  refine y_iload_n hX 6 rfl rfl ?_
  refine y_aload_n hX 7 rfl rfl ?_
  refine y_get hX 8 (t := 11) (j := 1) rfl yfl_ASB_22 (by decide) (by decide +kernel) (fun x3 => ?_)
  refine y_calV hX y_gRo (y_hrVo hX 9 (t := 12) (As := [va_rf x2, yi p1, yi x3]) (a := p2) rfl ycw_ASB_399 (fun p e => by cases e; exact km_String_getBytes (yk_G hX) p x2 p1 x3) (by decide) ⟨rfl, rfl, rfl, by decide, by decide⟩ rfl (Nat.le_trans y_cn (by decide))) ?_
  exact y_vret hX 10 rfl hR (fun _ h => And.right h)
theorem km_ASB_putStringAt {l : Launch} {G : qm_G} {Y : yY} (hG : yGG G Y) (this : Option Nat) (p1 : Int) (p2 : Option Nat) : yMM (yQv G Y) l G Y jy_ASB_putStringAt prog_14_method_73_code 3 none 2 49 [va_rf this, yi p1, va_rf p2] (kf_ASB_putStringAt Y this p1 p2) :=
  y_met (by decide +kernel) jd_ASB_putStringAt (fun v hv => by simp only [List.mem_cons, List.not_mem_nil, or_false] at hv; rcases hv with rfl | rfl | rfl <;> first | exact yc_D _ | rfl) (by exact Nat.le_of_ble_eq_true rfl) hG (fun X Fn r0 w0 hl hg hn hX hR => by subst hl; subst hg; exact kb_ASB_putStringAt hX hR this p1 p2)
def jl_Integer_stringSize : List qm_I := [(0, .iconst 1, 1, 1), (1, .istore_n 1, 1, 2), (2, .iload_n 0, 1, 3), (3, .ifCond .lt 8, 3, 6), (6, .iconst 0, 1, 7), (7, .istore_n 1, 1, 8), (8, .iload_n 0, 1, 9), (9, .ineg, 1, 10), (10, .istore_n 0, 1, 11), (11, .bipush (-10), 2, 13), (13, .istore_n 2, 1, 14), (14, .iconst 1, 1, 15), (15, .istore_n 3, 1, 16), (16, .iload_n 3, 1, 17), (17, .bipush 10, 2, 19), (19, .if_icmp .ge 23, 3, 22), (22, .iload_n 0, 1, 23), (23, .iload_n 2, 1, 24), (24, .if_icmp .le 7, 3, 27), (27, .iload_n 3, 1, 28), (28, .iload_n 1, 1, 29), (29, .iadd, 1, 30), (30, .ireturn, 1, 31), (31, .bipush 10, 2, 33), (33, .iload_n 2, 1, 34), (34, .imul, 1, 35), (35, .istore_n 2, 1, 36), (36, .iinc 3 1, 3, 39), (39, .goto (-23), 3, 42), (42, .bipush 10, 2, 44), (44, .iload_n 1, 1, 45), (45, .iadd, 1, 46), (46, .ireturn, 1, 47)]
theorem jd_Integer_stringSize : qm_D prog_17_method_13_code jl_Integer_stringSize := qm_D_of (by decide +kernel)
noncomputable def kf_Integer_stringSize (Y : yY) (p1 : Int) : yM Int :=
  yB (yP (1 : Int)) fun x1 =>
  yB (α := Int × Int) (
    yB (yR p1) fun _ =>
    if p1 < 0 then
      yP (p1, x1)
    else
      yB (yP (0 : Int)) fun x3 =>
      yB (yP (-p1)) fun x4 =>
      yP (x4, x3)) fun s2 =>
  yB (yP (-10 : Int)) fun x5 =>
  yB (yP (1 : Int)) fun x6 =>
  yB (α := (Unit ⊕ Int)) (
    yLp (S := Int × Int) (α := (Unit ⊕ Int)) (fun s8 =>
      yB (yR2 s8.2 (10 : Int)) fun _ =>
      if (10 : Int) ≤ s8.2 then
        yP (Sum.inr (Sum.inl ()))
      else
        yB (yR2 s2.1 s8.1) fun _ =>
        if s2.1 ≤ s8.1 then
          yB (yP ((10 : Int) * s8.1)) fun x9 =>
          yB (yP (s8.2 + 1)) fun x10 =>
          yP (Sum.inl (x9, x10))
        else
          yP (Sum.inr (Sum.inr (s8.2 + s2.2)))) (x5, x6)) (Sum.elim (fun s7 =>
    yP ((10 : Int) + s2.2)) yP)
set_option maxRecDepth 20000 in
set_option maxHeartbeats 4000000 in
theorem kb_Integer_stringSize {X : qm_X} {Y : yY} {Fn : yFn} (hX : y_ok X Y Fn "java/lang/Integer" prog_17_method_13_code 4 0 0 jl_Integer_stringSize) {r0 : Int} {w0 : yW} (hR : y_RI X Y Fn r0 w0 .int) (p1 : Int) : yb X Y Fn (kf_Integer_stringSize Y p1) 0 [some (yi p1), none, none, none] [] (fun r w1 => r = r0 ∧ w1 = w0) := by
  unfold kf_Integer_stringSize
  refine y_iconst hX 0 1 rfl (by decide) ?_
  refine y_istore_n hX 1 (fun x1 => [some (yi p1), some (yi x1), none, none]) rfl (by decide) (fun _ => rfl) (fun x1 => ?_)
  refine y_iload_n hX 2 rfl rfl ?_
  refine y_join (S := Int × Int) 11 (fun s2 => [some (yi s2.1), some (yi s2.2), none, none]) (fun s2 => []) ?_ ?_
  ·
    refine y_iflt hX 3 11 rfl (by decide) ?_ ?_
    ·
      exact y_exit (fun w h => yj_wk (ρ' := [some (yi p1), some (yi x1), none, none]) (qw_s (qw_s (qw_n (qw_n (qw_0))))) h)
    ·
      refine y_iconst hX 4 0 rfl (by decide) ?_
      refine y_istore_n hX 5 (fun x3 => [some (yi p1), some (yi x3), none, none]) rfl (by decide) (fun _ => rfl) (fun x3 => ?_)
      refine y_iload_n hX 6 rfl rfl ?_
      refine y_ineg hX 7 rfl ?_
      refine y_istore_n hX 8 (fun x4 => [some (yi x4), some (yi x3), none, none]) rfl (by decide) (fun _ => rfl) (fun x4 => ?_)
      exact y_exit (fun w h => yj_wk (ρ' := [some (yi x4), some (yi x3), none, none]) (qw_s (qw_s (qw_n (qw_n (qw_0))))) h)
  · intro s2
    refine y_bipush hX 9 (-10) rfl (by decide) ?_
    refine y_istore_n hX 10 (fun x5 => [some (yi s2.1), some (yi s2.2), some (yi x5), none]) rfl (by decide) (fun _ => rfl) (fun x5 => ?_)
    refine y_iconst hX 11 1 rfl (by decide) ?_
    refine y_istore_n hX 12 (fun x6 => [some (yi s2.1), some (yi s2.2), some (yi x5), some (yi x6)]) rfl (by decide) (fun _ => rfl) (fun x6 => ?_)
    refine y_join2 (S := Unit) 42 (fun s7 => [none, some (yi s2.2), none, none]) (fun s7 => []) ?_ ?_
    ·
      refine y_loopw (S := Int × Int) ((x5, x6)) (fun s8 => [some (yi s2.1), some (yi s2.2), some (yi s8.1), some (yi s8.2)]) (qw_s (qw_s (qw_s (qw_s (qw_0))))) (fun s8 => ?_)
      refine y_iload_n hX 13 rfl rfl ?_
      refine y_bipush hX 14 10 rfl (by decide) ?_
      refine y_icge hX 15 42 rfl (by decide) ?_ ?_
      ·
        exact y_exit (fun w h => yj_wk (ρ' := [none, some (yi s2.2), none, none]) (qw_n (qw_s (qw_n (qw_n (qw_0))))) h)
      ·
        refine y_iload_n hX 16 rfl rfl ?_
        refine y_iload_n hX 17 rfl rfl ?_
        refine y_icle hX 18 31 rfl (by decide) ?_ ?_
        ·
          refine y_bipush hX 23 10 rfl (by decide) ?_
          refine y_iload_n hX 24 rfl rfl ?_
          refine y_imul hX 25 rfl ?_
          refine y_istore_n hX 26 (fun x9 => [some (yi s2.1), some (yi s2.2), some (yi x9), some (yi s8.2)]) rfl (by decide) (fun _ => rfl) (fun x9 => ?_)
          refine y_iinc hX 27 (fun x10 => [some (yi s2.1), some (yi s2.2), some (yi x9), some (yi x10)]) rfl (by decide) rfl (fun _ => rfl) (fun x10 => ?_)
          exact y_exit (fun w h => yj_goto hX 28 rfl (by decide) (yj_wk (ρ' := [some (yi s2.1), some (yi s2.2), some (yi x9), some (yi x10)]) (qw_s (qw_s (qw_s (qw_s (qw_0))))) h))
        ·
          refine y_iload_n hX 19 rfl rfl ?_
          refine y_iload_n hX 20 rfl rfl ?_
          refine y_iadd hX 21 rfl ?_
          exact y_iret hX 22 rfl hR (fun _ h => h)
    · intro s7
      refine y_bipush hX 29 10 rfl (by decide) ?_
      refine y_iload_n hX 30 rfl rfl ?_
      refine y_iadd hX 31 rfl ?_
      exact y_iret hX 32 rfl hR (fun _ h => h)
theorem km_Integer_stringSize {l : Launch} {G : qm_G} {Y : yY} (hG : yGG G Y) (p1 : Int) : yMM (yQi G Y) l G Y jy_Integer_stringSize prog_17_method_13_code 4 (some .int) 0 0 [yi p1] (kf_Integer_stringSize Y p1) :=
  y_met (by decide +kernel) jd_Integer_stringSize (fun v hv => by simp only [List.mem_cons, List.not_mem_nil, or_false] at hv; rcases hv with rfl <;> first | exact yc_D _ | rfl) (by exact Nat.le_of_ble_eq_true rfl) hG (fun X Fn r0 w0 hl hg hn hX hR => by subst hl; subst hg; exact kb_Integer_stringSize hX hR p1)
def jl_Integer_getChars : List qm_I := [(0, .iload_n 1, 1, 1), (1, .istore 5, 2, 3), (3, .iload_n 0, 1, 4), (4, .ifCond .ge 7, 3, 7), (7, .iconst 1, 1, 8), (8, .goto 4, 3, 11), (11, .iconst 0, 1, 12), (12, .istore 6, 2, 14), (14, .iload 6, 2, 16), (16, .ifCond .ne 6, 3, 19), (19, .iload_n 0, 1, 20), (20, .ineg, 1, 21), (21, .istore_n 0, 1, 22), (22, .iload_n 0, 1, 23), (23, .bipush (-100), 2, 25), (25, .if_icmp .gt 47, 3, 28), (28, .iload_n 0, 1, 29), (29, .bipush 100, 2, 31), (31, .idiv, 1, 32), (32, .istore_n 3, 1, 33), (33, .iload_n 3, 1, 34), (34, .bipush 100, 2, 36), (36, .imul, 1, 37), (37, .iload_n 0, 1, 38), (38, .isub, 1, 39), (39, .istore 4, 2, 41), (41, .iload_n 3, 1, 42), (42, .istore_n 0, 1, 43), (43, .aload_n 2, 1, 44), (44, .iinc 5 (-1), 3, 47), (47, .iload 5, 2, 49), (49, .getstatic 83, 3, 52), (52, .iload 4, 2, 54), (54, .baload, 1, 55), (55, .bastore, 1, 56), (56, .aload_n 2, 1, 57), (57, .iinc 5 (-1), 3, 60), (60, .iload 5, 2, 62), (62, .getstatic 87, 3, 65), (65, .iload 4, 2, 67), (67, .baload, 1, 68), (68, .bastore, 1, 69), (69, .goto (-47), 3, 72), (72, .aload_n 2, 1, 73), (73, .iinc 5 (-1), 3, 76), (76, .iload 5, 2, 78), (78, .getstatic 83, 3, 81), (81, .iload_n 0, 1, 82), (82, .ineg, 1, 83), (83, .baload, 1, 84), (84, .bastore, 1, 85), (85, .iload_n 0, 1, 86), (86, .bipush (-9), 2, 88), (88, .if_icmp .ge 16, 3, 91), (91, .aload_n 2, 1, 92), (92, .iinc 5 (-1), 3, 95), (95, .iload 5, 2, 97), (97, .getstatic 87, 3, 100), (100, .iload_n 0, 1, 101), (101, .ineg, 1, 102), (102, .baload, 1, 103), (103, .bastore, 1, 104), (104, .iload 6, 2, 106), (106, .ifCond .eq 12, 3, 109), (109, .aload_n 2, 1, 110), (110, .iinc 5 (-1), 3, 113), (113, .iload 5, 2, 115), (115, .bipush 45, 2, 117), (117, .bastore, 1, 118), (118, .iload 5, 2, 120), (120, .ireturn, 1, 121)]
theorem jd_Integer_getChars : qm_D prog_17_method_12_code jl_Integer_getChars := qm_D_of (by decide +kernel)
noncomputable def kf_Integer_getChars (Y : yY) (p1 : Int) (p2 : Int) (p3 : Option Nat) : yM Int :=
  yB (yP p2) fun x1 =>
  yB (α := Int) (
    yB (yR p1) fun _ =>
    if 0 ≤ p1 then
      yP (0 : Int)
    else
      yP (1 : Int)) fun s2 =>
  yB (yP s2) fun x3 =>
  yB (α := Int) (
    yB (yR x3) fun _ =>
    if ¬ x3 = 0 then
      yP p1
    else
      yB (yP (-p1)) fun x5 =>
      yP x5) fun s4 =>
  yB (α := Int × Int) (
    yLp (S := Int × Int) (α := Int × Int) (fun s7 =>
      yB (yR2 s7.1 (-100 : Int)) fun _ =>
      if (-100 : Int) < s7.1 then
        yP (Sum.inr (s7.1, s7.2))
      else
        yB (yDv s7.1 (100 : Int)) fun x8 =>
        yB (yP x8) fun x9 =>
        yB (yP ((x9 * (100 : Int)) - s7.1)) fun x10 =>
        yB (yP x9) fun x11 =>
        yB (yP (s7.2 + (-1))) fun x12 =>
        yB (yLd 3 (some (y_ad Y 20)) x10) fun x13 =>
        yB (ySb p3 x12 x13) fun _ =>
        yB (yP (x12 + (-1))) fun x14 =>
        yB (yLd 3 (some (y_ad Y 21)) x10) fun x15 =>
        yB (ySb p3 x14 x15) fun _ =>
        yP (Sum.inl (x11, x14))) (s4, x1)) fun s6 =>
  yB (yP (s6.2 + (-1))) fun x16 =>
  yB (yLd 3 (some (y_ad Y 20)) (-s6.1)) fun x17 =>
  yB (ySb p3 x16 x17) fun _ =>
  yB (α := Int) (
    yB (yR2 s6.1 (-9 : Int)) fun _ =>
    if (-9 : Int) ≤ s6.1 then
      yP x16
    else
      yB (yP (x16 + (-1))) fun x19 =>
      yB (yLd 3 (some (y_ad Y 21)) (-s6.1)) fun x20 =>
      yB (ySb p3 x19 x20) fun _ =>
      yP x19) fun s18 =>
  yB (yR x3) fun _ =>
  if x3 = 0 then
    yP s18
  else
    yB (yP (s18 + (-1))) fun x21 =>
    yB (ySb p3 x21 (45 : Int)) fun _ =>
    yP x21
set_option maxRecDepth 20000 in
set_option maxHeartbeats 4000000 in
theorem kb_Integer_getChars {X : qm_X} {Y : yY} {Fn : yFn} (hX : y_ok X Y Fn "java/lang/Integer" prog_17_method_12_code 7 0 0 jl_Integer_getChars) {r0 : Int} {w0 : yW} (hR : y_RI X Y Fn r0 w0 .int) (p1 : Int) (p2 : Int) (p3 : Option Nat) : yb X Y Fn (kf_Integer_getChars Y p1 p2 p3) 0 [some (yi p1), some (yi p2), some (va_rf p3), none, none, none, none] [] (fun r w1 => r = r0 ∧ w1 = w0) := by
  unfold kf_Integer_getChars
  refine y_iload_n hX 0 rfl rfl ?_
  refine y_istore hX 1 (fun x1 => [some (yi p1), some (yi p2), some (va_rf p3), none, none, some (yi x1), none]) rfl (by decide) (fun _ => rfl) (fun x1 => ?_)
  refine y_iload_n hX 2 rfl rfl ?_
  refine y_join (S := Int) 12 (fun s2 => [some (yi p1), none, some (va_rf p3), none, none, some (yi x1), none]) (fun s2 => [yi s2]) ?_ ?_
  ·
    refine y_ifge hX 3 11 rfl (by decide) ?_ ?_
    ·
      refine y_iconst hX 6 0 rfl (by decide) ?_
      exact y_exit (fun w h => yj_wk (ρ' := [some (yi p1), none, some (va_rf p3), none, none, some (yi x1), none]) (qw_s (qw_n (qw_s (qw_n (qw_n (qw_s (qw_n (qw_0)))))))) h)
    ·
      refine y_iconst hX 4 1 rfl (by decide) ?_
      exact y_exit (fun w h => yj_goto hX 5 rfl (by decide) (yj_wk (ρ' := [some (yi p1), none, some (va_rf p3), none, none, some (yi x1), none]) (qw_s (qw_n (qw_s (qw_n (qw_n (qw_s (qw_n (qw_0)))))))) h))
  · intro s2
    refine y_istore hX 7 (fun x3 => [some (yi p1), none, some (va_rf p3), none, none, some (yi x1), some (yi x3)]) rfl (by decide) (fun _ => rfl) (fun x3 => ?_)
    refine y_iload hX 8 rfl rfl ?_
    refine y_join (S := Int) 22 (fun s4 => [some (yi s4), none, some (va_rf p3), none, none, some (yi x1), some (yi x3)]) (fun s4 => []) ?_ ?_
    ·
      refine y_ifne hX 9 22 rfl (by decide) ?_ ?_
      ·
        exact y_exit (fun w h => yj_wk (ρ' := [some (yi p1), none, some (va_rf p3), none, none, some (yi x1), some (yi x3)]) (qw_s (qw_n (qw_s (qw_n (qw_n (qw_s (qw_s (qw_0)))))))) h)
      ·
        refine y_iload_n hX 10 rfl rfl ?_
        refine y_ineg hX 11 rfl ?_
        refine y_istore_n hX 12 (fun x5 => [some (yi x5), none, some (va_rf p3), none, none, some (yi x1), some (yi x3)]) rfl (by decide) (fun _ => rfl) (fun x5 => ?_)
        exact y_exit (fun w h => yj_wk (ρ' := [some (yi x5), none, some (va_rf p3), none, none, some (yi x1), some (yi x3)]) (qw_s (qw_n (qw_s (qw_n (qw_n (qw_s (qw_s (qw_0)))))))) h)
    · intro s4
      refine y_join (S := Int × Int) 72 (fun s6 => [some (yi s6.1), none, some (va_rf p3), none, none, some (yi s6.2), some (yi x3)]) (fun s6 => []) ?_ ?_
      ·
        refine y_loopw (S := Int × Int) ((s4, x1)) (fun s7 => [some (yi s7.1), none, some (va_rf p3), none, none, some (yi s7.2), some (yi x3)]) (qw_s (qw_n (qw_s (qw_n (qw_n (qw_s (qw_s (qw_0)))))))) (fun s7 => ?_)
        refine y_iload_n hX 13 rfl rfl ?_
        refine y_bipush hX 14 (-100) rfl (by decide) ?_
        refine y_icgt hX 15 72 rfl (by decide) ?_ ?_
        ·
          exact y_exit (fun w h => yj_wk (ρ' := [some (yi s7.1), none, some (va_rf p3), none, none, some (yi s7.2), some (yi x3)]) (qw_s (qw_n (qw_s (qw_n (qw_n (qw_s (qw_s (qw_0)))))))) h)
        ·
          refine y_iload_n hX 16 rfl rfl ?_
          refine y_bipush hX 17 100 rfl (by decide) ?_
          refine y_idiv hX 18 rfl (fun x8 => ?_)
          refine y_istore_n hX 19 (fun x9 => [some (yi s7.1), none, some (va_rf p3), some (yi x9), none, some (yi s7.2), some (yi x3)]) rfl (by decide) (fun _ => rfl) (fun x9 => ?_)
          refine y_iload_n hX 20 rfl rfl ?_
          refine y_bipush hX 21 100 rfl (by decide) ?_
          refine y_imul hX 22 rfl ?_
          refine y_iload_n hX 23 rfl rfl ?_
          refine y_isub hX 24 rfl ?_
          refine y_istore hX 25 (fun x10 => [some (yi s7.1), none, some (va_rf p3), some (yi x9), some (yi x10), some (yi s7.2), some (yi x3)]) rfl (by decide) (fun _ => rfl) (fun x10 => ?_)
          refine y_iload_n hX 26 rfl rfl ?_
          refine y_istore_n hX 27 (fun x11 => [some (yi x11), none, some (va_rf p3), some (yi x9), some (yi x10), some (yi s7.2), some (yi x3)]) rfl (by decide) (fun _ => rfl) (fun x11 => ?_)
          refine y_aload_n hX 28 rfl rfl ?_
          refine y_iinc hX 29 (fun x12 => [some (yi x11), none, some (va_rf p3), some (yi x9), some (yi x10), some (yi x12), some (yi x3)]) rfl (by decide) rfl (fun _ => rfl) (fun x12 => ?_)
          refine y_iload hX 30 rfl rfl ?_
          refine y_getsD hX 31 (n := "DigitOnes") 20 (by first | exact Or.inl ⟨rfl, rfl⟩ | exact Or.inr ⟨rfl, rfl⟩) rfl ygs_Integer_83 ?_
          refine y_iload hX 32 rfl rfl ?_
          refine y_bald hX 33 rfl (fun x13 => ?_)
          refine y_bast hX 34 rfl ?_
          refine y_aload_n hX 35 rfl rfl ?_
          refine y_iinc hX 36 (fun x14 => [some (yi x11), none, some (va_rf p3), some (yi x9), some (yi x10), some (yi x14), some (yi x3)]) rfl (by decide) rfl (fun _ => rfl) (fun x14 => ?_)
          refine y_iload hX 37 rfl rfl ?_
          refine y_getsD hX 38 (n := "DigitTens") 21 (by first | exact Or.inl ⟨rfl, rfl⟩ | exact Or.inr ⟨rfl, rfl⟩) rfl ygs_Integer_87 ?_
          refine y_iload hX 39 rfl rfl ?_
          refine y_bald hX 40 rfl (fun x15 => ?_)
          refine y_bast hX 41 rfl ?_
          exact y_exit (fun w h => yj_goto hX 42 rfl (by decide) (yj_wk (ρ' := [some (yi x11), none, some (va_rf p3), none, none, some (yi x14), some (yi x3)]) (qw_s (qw_n (qw_s (qw_n (qw_n (qw_s (qw_s (qw_0)))))))) h))
      · intro s6
        refine y_aload_n hX 43 rfl rfl ?_
        refine y_iinc hX 44 (fun x16 => [some (yi s6.1), none, some (va_rf p3), none, none, some (yi x16), some (yi x3)]) rfl (by decide) rfl (fun _ => rfl) (fun x16 => ?_)
        refine y_iload hX 45 rfl rfl ?_
        refine y_getsD hX 46 (n := "DigitOnes") 20 (by first | exact Or.inl ⟨rfl, rfl⟩ | exact Or.inr ⟨rfl, rfl⟩) rfl ygs_Integer_83 ?_
        refine y_iload_n hX 47 rfl rfl ?_
        refine y_ineg hX 48 rfl ?_
        refine y_bald hX 49 rfl (fun x17 => ?_)
        refine y_bast hX 50 rfl ?_
        refine y_iload_n hX 51 rfl rfl ?_
        refine y_bipush hX 52 (-9) rfl (by decide) ?_
        refine y_join (S := Int) 104 (fun s18 => [none, none, some (va_rf p3), none, none, some (yi s18), some (yi x3)]) (fun s18 => []) ?_ ?_
        ·
          refine y_icge hX 53 104 rfl (by decide) ?_ ?_
          ·
            exact y_exit (fun w h => yj_wk (ρ' := [none, none, some (va_rf p3), none, none, some (yi x16), some (yi x3)]) (qw_n (qw_n (qw_s (qw_n (qw_n (qw_s (qw_s (qw_0)))))))) h)
          ·
            refine y_aload_n hX 54 rfl rfl ?_
            refine y_iinc hX 55 (fun x19 => [some (yi s6.1), none, some (va_rf p3), none, none, some (yi x19), some (yi x3)]) rfl (by decide) rfl (fun _ => rfl) (fun x19 => ?_)
            refine y_iload hX 56 rfl rfl ?_
            refine y_getsD hX 57 (n := "DigitTens") 21 (by first | exact Or.inl ⟨rfl, rfl⟩ | exact Or.inr ⟨rfl, rfl⟩) rfl ygs_Integer_87 ?_
            refine y_iload_n hX 58 rfl rfl ?_
            refine y_ineg hX 59 rfl ?_
            refine y_bald hX 60 rfl (fun x20 => ?_)
            refine y_bast hX 61 rfl ?_
            exact y_exit (fun w h => yj_wk (ρ' := [none, none, some (va_rf p3), none, none, some (yi x19), some (yi x3)]) (qw_n (qw_n (qw_s (qw_n (qw_n (qw_s (qw_s (qw_0)))))))) h)
        · intro s18
          refine y_iload hX 62 rfl rfl ?_
          refine y_ifeq hX 63 118 rfl (by decide) ?_ ?_
          ·
            refine y_iload hX 69 rfl rfl ?_
            exact y_iret hX 70 rfl hR (fun _ h => h)
          ·
            refine y_aload_n hX 64 rfl rfl ?_
            refine y_iinc hX 65 (fun x21 => [none, none, some (va_rf p3), none, none, some (yi x21), some (yi x3)]) rfl (by decide) rfl (fun _ => rfl) (fun x21 => ?_)
            refine y_iload hX 66 rfl rfl ?_
            refine y_bipush hX 67 45 rfl (by decide) ?_
            refine y_bast hX 68 rfl ?_
            refine y_iload hX 69 rfl rfl ?_
            exact y_iret hX 70 rfl hR (fun _ h => h)
theorem km_Integer_getChars {l : Launch} {G : qm_G} {Y : yY} (hG : yGG G Y) (p1 : Int) (p2 : Int) (p3 : Option Nat) : yMM (yQi G Y) l G Y jy_Integer_getChars prog_17_method_12_code 7 (some .int) 0 0 [yi p1, yi p2, va_rf p3] (kf_Integer_getChars Y p1 p2 p3) :=
  y_met (by decide +kernel) jd_Integer_getChars (fun v hv => by simp only [List.mem_cons, List.not_mem_nil, or_false] at hv; rcases hv with rfl | rfl | rfl <;> first | exact yc_D _ | rfl) (by exact Nat.le_of_ble_eq_true rfl) hG (fun X Fn r0 w0 hl hg hn hX hR => by subst hl; subst hg; exact kb_Integer_getChars hX hR p1 p2 p3)
def jl_ASB_append_cf1ce : List qm_I := [(0, .aload_n 1, 1, 1), (1, .ifnonnull 8, 3, 4), (4, .aload_n 0, 1, 5), (5, .invokevirtual 204, 3, 8), (8, .areturn, 1, 9), (9, .aload_n 1, 1, 10), (10, .invokevirtual 32, 3, 13), (13, .istore_n 2, 1, 14), (14, .aload_n 0, 1, 15), (15, .aload_n 0, 1, 16), (16, .getfield 79, 3, 19), (19, .iload_n 2, 1, 20), (20, .iadd, 1, 21), (21, .invokevirtual 100, 3, 24), (24, .aload_n 0, 1, 25), (25, .aload_n 0, 1, 26), (26, .getfield 79, 3, 29), (29, .aload_n 1, 1, 30), (30, .invokevirtual 208, 3, 33), (33, .aload_n 0, 1, 34), (34, .dup, 1, 35), (35, .getfield 79, 3, 38), (38, .iload_n 2, 1, 39), (39, .iadd, 1, 40), (40, .putfield 79, 3, 43), (43, .aload_n 0, 1, 44), (44, .areturn, 1, 45)]
theorem jd_ASB_append_cf1ce : qm_D prog_14_method_22_code jl_ASB_append_cf1ce := qm_D_of (by decide +kernel)
noncomputable def kf_ASB_append_cf1ce (Y : yY) (this : Option Nat) (p1 : Option Nat) : yM (Option Nat) :=
  if ¬ p1 = none then
    yB (yKr 22 p1 (kf_String_length Y p1)) fun x1 =>
    yB (yP x1) fun x2 =>
    yB (yGt 21 this 3) fun x3 =>
    yB (yKr 21 this (kf_ASB_ensureCapacityInternal Y this (x3 + x2))) fun _ =>
    yB (yGt 21 this 3) fun x5 =>
    yB (yKr 21 this (kf_ASB_putStringAt Y this x5 p1)) fun _ =>
    yB (yGt 21 this 3) fun x7 =>
    yB (yPt 21 this 3 (x7 + x2)) fun _ =>
    yB (yNn this) fun _ =>
    yP this
  else
    yF
set_option maxRecDepth 20000 in
set_option maxHeartbeats 4000000 in
theorem kb_ASB_append_cf1ce {X : qm_X} {Y : yY} {Fn : yFn} (hX : y_ok X Y Fn "java/lang/AbstractStringBuilder" prog_14_method_22_code 3 3 71 jl_ASB_append_cf1ce) {r0 : Option Nat} {w0 : yW} (hR : y_RR X Y Fn r0 w0 (.object "java/lang/AbstractStringBuilder")) (this : Option Nat) (p1 : Option Nat) : yb X Y Fn (kf_ASB_append_cf1ce Y this p1) 0 [some (va_rf this), some (va_rf p1), none] [] (fun r w1 => r = r0 ∧ w1 = w0) := by
  unfold kf_ASB_append_cf1ce
  refine y_aload_n hX 0 rfl rfl ?_
  refine y_ifnonnull hX 1 9 rfl (by decide) ?_ ?_
  ·
    refine y_aload_n hX 5 rfl rfl ?_
    refine y_calI hX y_gRo (y_hrVo hX 6 (t := 12) (As := []) (a := p1) rfl ycw_ASB_32 (fun p e => by cases e; exact km_String_length (yk_G hX) p) (by decide) ⟨rfl, rfl, rfl, by decide, by decide⟩ rfl (Nat.le_trans y_cn (by decide))) (fun x1 => ?_)
    refine y_istore_n hX 7 (fun x2 => [some (va_rf this), some (va_rf p1), some (yi x2)]) rfl (by decide) (fun _ => rfl) (fun x2 => ?_)
    refine y_aload_n hX 8 rfl rfl ?_
    refine y_aload_n hX 9 rfl rfl ?_
    refine y_get hX 10 (t := 11) (j := 3) rfl yfl_ASB_79 (by decide) (by decide +kernel) (fun x3 => ?_)
    refine y_iload_n hX 11 rfl rfl ?_
    refine y_iadd hX 12 rfl ?_
    refine y_calV hX y_gRo (y_hrUo hX 13 (t := 11) (As := [yi (x3 + x2)]) (a := this) rfl ycw_ASB_100 (fun p e => by cases e; exact km_ASB_ensureCapacityInternal (yk_G hX) p (x3 + x2)) (by decide) ⟨rfl, rfl, rfl, by decide, by decide⟩ rfl (Nat.le_trans y_cn (by decide))) ?_
    refine y_aload_n hX 14 rfl rfl ?_
    refine y_aload_n hX 15 rfl rfl ?_
    refine y_get hX 16 (t := 11) (j := 3) rfl yfl_ASB_79 (by decide) (by decide +kernel) (fun x5 => ?_)
    refine y_aload_n hX 17 rfl rfl ?_
    refine y_calV hX y_gRo (y_hrUo hX 18 (t := 11) (As := [yi x5, va_rf p1]) (a := this) rfl ycw_ASB_208 (fun p e => by cases e; exact km_ASB_putStringAt (yk_G hX) p x5 p1) (by decide) ⟨rfl, rfl, rfl, by decide, by decide⟩ rfl (Nat.le_trans y_cn (by decide))) ?_
    refine y_aload_n hX 19 rfl rfl ?_
    refine y_dup hX 20 rfl (yc_D _) ?_
    refine y_get hX 21 (t := 11) (j := 3) rfl yfl_ASB_79 (by decide) (by decide +kernel) (fun x7 => ?_)
    refine y_iload_n hX 22 rfl rfl ?_
    refine y_iadd hX 23 rfl ?_
    refine y_putI hX 24 0 (t := 11) (j := 3) rfl yfp_ASB_79 (fun h => absurd h (by decide)) (by decide) (by decide +kernel) ?_
    refine y_aload_n hX 25 rfl rfl ?_
    exact y_aret hX 26 rfl hR (fun _ h => h)
  ·
    exact y_F
theorem km_ASB_append_cf1ce {l : Launch} {G : qm_G} {Y : yY} (hG : yGG G Y) (this : Option Nat) (p1 : Option Nat) : yMM (yQr G Y) l G Y jy_ASB_append_cf1ce prog_14_method_22_code 3 (some (.object "java/lang/AbstractStringBuilder")) 3 71 [va_rf this, va_rf p1] (kf_ASB_append_cf1ce Y this p1) :=
  y_met (by decide +kernel) jd_ASB_append_cf1ce (fun v hv => by simp only [List.mem_cons, List.not_mem_nil, or_false] at hv; rcases hv with rfl | rfl <;> first | exact yc_D _ | rfl) (by exact Nat.le_of_ble_eq_true rfl) hG (fun X Fn r0 w0 hl hg hn hX hR => by subst hl; subst hg; exact kb_ASB_append_cf1ce hX ⟨⟨hR.1.1, hR.1.2, Or.inl ⟨_, rfl⟩⟩, hR.2⟩ this p1)
def jl_ASB_append_3fe6f : List qm_I := [(0, .aload_n 0, 1, 1), (1, .aload_n 0, 1, 2), (2, .getfield 79, 3, 5), (5, .iconst 1, 1, 6), (6, .iadd, 1, 7), (7, .invokevirtual 100, 3, 10), (10, .aload_n 0, 1, 11), (11, .invokevirtual 83, 3, 14), (14, .ifCond .eq 31, 3, 17), (17, .iload_n 1, 1, 18), (18, .invokestatic 191, 3, 21), (21, .ifCond .eq 24, 3, 24), (24, .aload_n 0, 1, 25), (25, .getfield 15, 3, 28), (28, .aload_n 0, 1, 29), (29, .dup, 1, 30), (30, .getfield 79, 3, 33), (33, .dup_x1, 1, 34), (34, .iconst 1, 1, 35), (35, .iadd, 1, 36), (36, .putfield 79, 3, 39), (39, .iload_n 1, 1, 40), (40, .i2b, 1, 41), (41, .bastore, 1, 42), (42, .goto 33, 3, 45), (45, .aload_n 0, 1, 46), (46, .invokevirtual 83, 3, 49), (49, .ifCond .eq 7, 3, 52), (52, .aload_n 0, 1, 53), (53, .invokevirtual 195, 3, 56), (56, .aload_n 0, 1, 57), (57, .getfield 15, 3, 60), (60, .aload_n 0, 1, 61), (61, .dup, 1, 62), (62, .getfield 79, 3, 65), (65, .dup_x1, 1, 66), (66, .iconst 1, 1, 67), (67, .iadd, 1, 68), (68, .putfield 79, 3, 71), (71, .iload_n 1, 1, 72), (72, .invokestatic 197, 3, 75), (75, .aload_n 0, 1, 76), (76, .areturn, 1, 77)]
theorem jd_ASB_append_3fe6f : qm_D prog_14_method_31_code jl_ASB_append_3fe6f := qm_D_of (by decide +kernel)
noncomputable def kf_ASB_append_3fe6f (Y : yY) (this : Option Nat) (p1 : Int) : yM (Option Nat) :=
  yB (yGt 21 this 3) fun x1 =>
  yB (yKr 21 this (kf_ASB_ensureCapacityInternal Y this (x1 + (1 : Int)))) fun _ =>
  yB (yKr 21 this (kf_ASB_isLatin1 Y this)) fun x3 =>
  yB (α := (Unit ⊕ (Option Nat))) (
    yB (yR x3) fun _ =>
    if x3 = 0 then
      yP (Sum.inl ())
    else
      yB (yK (kf_Latin1_canEncode Y p1)) fun x5 =>
      yB (yR x5) fun _ =>
      if x5 = 0 then
        yP (Sum.inl ())
      else
        yB (yGr 21 this 0) fun x6 =>
        yB (yGt 21 this 3) fun x7 =>
        yB (yPt 21 this 3 (x7 + (1 : Int))) fun _ =>
        yB (ySb x6 x7 (ybB p1)) fun _ =>
        yB (yNn this) fun _ =>
        yP (Sum.inr this)) (Sum.elim (fun s4 =>
    yB (yKr 21 this (kf_ASB_isLatin1 Y this)) fun x8 =>
    yB (yR x8) fun _ =>
    if x8 = 0 then
      yF
    else
      yF) yP)
set_option maxRecDepth 20000 in
set_option maxHeartbeats 4000000 in
theorem kb_ASB_append_3fe6f {X : qm_X} {Y : yY} {Fn : yFn} (hX : y_ok X Y Fn "java/lang/AbstractStringBuilder" prog_14_method_31_code 2 1 22 jl_ASB_append_3fe6f) {r0 : Option Nat} {w0 : yW} (hR : y_RR X Y Fn r0 w0 (.object "java/lang/AbstractStringBuilder")) (this : Option Nat) (p1 : Int) : yb X Y Fn (kf_ASB_append_3fe6f Y this p1) 0 [some (va_rf this), some (yi p1)] [] (fun r w1 => r = r0 ∧ w1 = w0) := by
  unfold kf_ASB_append_3fe6f
  refine y_aload_n hX 0 rfl rfl ?_
  refine y_aload_n hX 1 rfl rfl ?_
  refine y_get hX 2 (t := 11) (j := 3) rfl yfl_ASB_79 (by decide) (by decide +kernel) (fun x1 => ?_)
  refine y_iconst hX 3 1 rfl (by decide) ?_
  refine y_iadd hX 4 rfl ?_
  refine y_calV hX y_gRo (y_hrUo hX 5 (t := 11) (As := [yi (x1 + (1 : Int))]) (a := this) rfl ycw_ASB_100 (fun p e => by cases e; exact km_ASB_ensureCapacityInternal (yk_G hX) p (x1 + (1 : Int))) (by decide) ⟨rfl, rfl, rfl, by decide, by decide⟩ rfl (Nat.le_trans y_cn (by decide))) ?_
  refine y_aload_n hX 6 rfl rfl ?_
  refine y_calI hX y_gRo (y_hrUo hX 7 (t := 11) (As := []) (a := this) rfl ycw_ASB_83 (fun p e => by cases e; exact km_ASB_isLatin1 (yk_G hX) p) (by decide) ⟨rfl, rfl, rfl, by decide, by decide⟩ rfl (Nat.le_trans y_cn (by decide))) (fun x3 => ?_)
  refine y_join2 (S := Unit) 45 (fun s4 => [some (va_rf this), some (yi p1)]) (fun s4 => []) ?_ ?_
  ·
    refine y_ifeq hX 8 45 rfl (by decide) ?_ ?_
    ·
      exact y_exit (fun w h => yj_wk (ρ' := [some (va_rf this), some (yi p1)]) (qw_s (qw_s (qw_0))) h)
    ·
      refine y_iload_n hX 9 rfl rfl ?_
      refine y_calI hX y_gK (y_hrS hX 10 (As := [yi p1]) rfl ycw_ASB_191 (km_Latin1_canEncode (yk_G hX) p1) ⟨rfl, by decide, by decide⟩ rfl (Nat.le_trans y_cn (by decide))) (fun x5 => ?_)
      refine y_ifeq hX 11 45 rfl (by decide) ?_ ?_
      ·
        exact y_exit (fun w h => yj_wk (ρ' := [some (va_rf this), some (yi p1)]) (qw_s (qw_s (qw_0))) h)
      ·
        refine y_aload_n hX 12 rfl rfl ?_
        refine y_getR hX 13 (t := 11) (j := 0) rfl yfl_ASB_15 (by decide) (by decide +kernel) (fun x6 => ?_)
        refine y_aload_n hX 14 rfl rfl ?_
        refine y_dup hX 15 rfl (yc_D _) ?_
        refine y_get hX 16 (t := 11) (j := 3) rfl yfl_ASB_79 (by decide) (by decide +kernel) (fun x7 => ?_)
        refine y_dup_x1 hX 17 rfl (yc_I _) (yc_D _) ?_
        refine y_iconst hX 18 1 rfl (by decide) ?_
        refine y_iadd hX 19 rfl ?_
        refine y_putI hX 20 0 (t := 11) (j := 3) rfl yfp_ASB_79 (fun h => absurd h (by decide)) (by decide) (by decide +kernel) ?_
        refine y_iload_n hX 21 rfl rfl ?_
        refine y_i2b hX 22 rfl ?_
        refine y_bast hX 23 rfl ?_
        refine y_goto hX 24 (tgt := 75) rfl (by decide) ?_
        refine y_aload_n hX 41 rfl rfl ?_
        exact y_aret hX 42 rfl hR (fun _ h => h)
  · intro s4
    refine y_aload_n hX 25 rfl rfl ?_
    refine y_calI hX y_gRo (y_hrUo hX 26 (t := 11) (As := []) (a := this) rfl ycw_ASB_83 (fun p e => by cases e; exact km_ASB_isLatin1 (yk_G hX) p) (by decide) ⟨rfl, rfl, rfl, by decide, by decide⟩ rfl (Nat.le_trans y_cn (by decide))) (fun x8 => ?_)
    refine y_ifeq hX 27 56 rfl (by decide) ?_ ?_
    ·
      exact y_F
    ·
      exact y_F
theorem km_ASB_append_3fe6f {l : Launch} {G : qm_G} {Y : yY} (hG : yGG G Y) (this : Option Nat) (p1 : Int) : yMM (yQr G Y) l G Y jy_ASB_append_3fe6f prog_14_method_31_code 2 (some (.object "java/lang/AbstractStringBuilder")) 1 22 [va_rf this, yi p1] (kf_ASB_append_3fe6f Y this p1) :=
  y_met (by decide +kernel) jd_ASB_append_3fe6f (fun v hv => by simp only [List.mem_cons, List.not_mem_nil, or_false] at hv; rcases hv with rfl | rfl <;> first | exact yc_D _ | rfl) (by exact Nat.le_of_ble_eq_true rfl) hG (fun X Fn r0 w0 hl hg hn hX hR => by subst hl; subst hg; exact kb_ASB_append_3fe6f hX ⟨⟨hR.1.1, hR.1.2, Or.inl ⟨_, rfl⟩⟩, hR.2⟩ this p1)
def jl_ASB_append_c97b9 : List qm_I := [(0, .aload_n 0, 1, 1), (1, .getfield 79, 3, 4), (4, .istore_n 2, 1, 5), (5, .iload_n 2, 1, 6), (6, .iload_n 1, 1, 7), (7, .invokestatic 245, 3, 10), (10, .iadd, 1, 11), (11, .istore_n 3, 1, 12), (12, .aload_n 0, 1, 13), (13, .iload_n 3, 1, 14), (14, .invokevirtual 100, 3, 17), (17, .aload_n 0, 1, 18), (18, .invokevirtual 83, 3, 21), (21, .ifCond .eq 16, 3, 24), (24, .iload_n 1, 1, 25), (25, .iload_n 3, 1, 26), (26, .aload_n 0, 1, 27), (27, .getfield 15, 3, 30), (30, .invokestatic 248, 3, 33), (33, .pop, 1, 34), (34, .goto 14, 3, 37), (37, .iload_n 1, 1, 38), (38, .iload_n 2, 1, 39), (39, .iload_n 3, 1, 40), (40, .aload_n 0, 1, 41), (41, .getfield 15, 3, 44), (44, .invokestatic 251, 3, 47), (47, .pop, 1, 48), (48, .aload_n 0, 1, 49), (49, .iload_n 3, 1, 50), (50, .putfield 79, 3, 53), (53, .aload_n 0, 1, 54), (54, .areturn, 1, 55)]
theorem jd_ASB_append_c97b9 : qm_D prog_14_method_32_code jl_ASB_append_c97b9 := qm_D_of (by decide +kernel)
noncomputable def kf_ASB_append_c97b9 (Y : yY) (this : Option Nat) (p1 : Int) : yM (Option Nat) :=
  yB (yGt 21 this 3) fun x1 =>
  yB (yP x1) fun x2 =>
  yB (yK (kf_Integer_stringSize Y p1)) fun x3 =>
  yB (yP (x2 + x3)) fun x4 =>
  yB (yKr 21 this (kf_ASB_ensureCapacityInternal Y this x4)) fun _ =>
  yB (yKr 21 this (kf_ASB_isLatin1 Y this)) fun x6 =>
  yB (yR x6) fun _ =>
  if x6 = 0 then
    yF
  else
    yB (yGr 21 this 0) fun x7 =>
    yB (yK (kf_Integer_getChars Y p1 x4 x7)) fun x8 =>
    yB (yPt 21 this 3 x4) fun _ =>
    yB (yNn this) fun _ =>
    yP this
set_option maxRecDepth 20000 in
set_option maxHeartbeats 4000000 in
theorem kb_ASB_append_c97b9 {X : qm_X} {Y : yY} {Fn : yFn} (hX : y_ok X Y Fn "java/lang/AbstractStringBuilder" prog_14_method_32_code 4 1 26 jl_ASB_append_c97b9) {r0 : Option Nat} {w0 : yW} (hR : y_RR X Y Fn r0 w0 (.object "java/lang/AbstractStringBuilder")) (this : Option Nat) (p1 : Int) : yb X Y Fn (kf_ASB_append_c97b9 Y this p1) 0 [some (va_rf this), some (yi p1), none, none] [] (fun r w1 => r = r0 ∧ w1 = w0) := by
  unfold kf_ASB_append_c97b9
  refine y_aload_n hX 0 rfl rfl ?_
  refine y_get hX 1 (t := 11) (j := 3) rfl yfl_ASB_79 (by decide) (by decide +kernel) (fun x1 => ?_)
  refine y_istore_n hX 2 (fun x2 => [some (va_rf this), some (yi p1), some (yi x2), none]) rfl (by decide) (fun _ => rfl) (fun x2 => ?_)
  refine y_iload_n hX 3 rfl rfl ?_
  refine y_iload_n hX 4 rfl rfl ?_
  refine y_calI hX y_gK (y_hrS hX 5 (As := [yi p1]) rfl ycw_ASB_245 (km_Integer_stringSize (yk_G hX) p1) ⟨rfl, by decide, by decide⟩ rfl (Nat.le_trans (y_cs (yc_I _) y_cn) (by decide))) (fun x3 => ?_)
  refine y_iadd hX 6 rfl ?_
  refine y_istore_n hX 7 (fun x4 => [some (va_rf this), some (yi p1), some (yi x2), some (yi x4)]) rfl (by decide) (fun _ => rfl) (fun x4 => ?_)
  refine y_aload_n hX 8 rfl rfl ?_
  refine y_iload_n hX 9 rfl rfl ?_
  refine y_calV hX y_gRo (y_hrUo hX 10 (t := 11) (As := [yi x4]) (a := this) rfl ycw_ASB_100 (fun p e => by cases e; exact km_ASB_ensureCapacityInternal (yk_G hX) p x4) (by decide) ⟨rfl, rfl, rfl, by decide, by decide⟩ rfl (Nat.le_trans y_cn (by decide))) ?_
  refine y_aload_n hX 11 rfl rfl ?_
  refine y_calI hX y_gRo (y_hrUo hX 12 (t := 11) (As := []) (a := this) rfl ycw_ASB_83 (fun p e => by cases e; exact km_ASB_isLatin1 (yk_G hX) p) (by decide) ⟨rfl, rfl, rfl, by decide, by decide⟩ rfl (Nat.le_trans y_cn (by decide))) (fun x6 => ?_)
  refine y_ifeq hX 13 37 rfl (by decide) ?_ ?_
  ·
    exact y_F
  ·
    refine y_iload_n hX 14 rfl rfl ?_
    refine y_iload_n hX 15 rfl rfl ?_
    refine y_aload_n hX 16 rfl rfl ?_
    refine y_getR hX 17 (t := 11) (j := 0) rfl yfl_ASB_15 (by decide) (by decide +kernel) (fun x7 => ?_)
    refine y_calI hX y_gK (y_hrS hX 18 (As := [yi p1, yi x4, va_rf x7]) rfl ycw_ASB_248 (km_Integer_getChars (yk_G hX) p1 x4 x7) ⟨rfl, by decide, by decide⟩ rfl (Nat.le_trans y_cn (by decide))) (fun x8 => ?_)
    refine y_pop hX 19 rfl (yc_I _) ?_
    refine y_goto hX 20 (tgt := 48) rfl (by decide) ?_
    refine y_aload_n hX 28 rfl rfl ?_
    refine y_iload_n hX 29 rfl rfl ?_
    refine y_putI hX 30 0 (t := 11) (j := 3) rfl yfp_ASB_79 (fun h => absurd h (by decide)) (by decide) (by decide +kernel) ?_
    refine y_aload_n hX 31 rfl rfl ?_
    exact y_aret hX 32 rfl hR (fun _ h => h)
theorem km_ASB_append_c97b9 {l : Launch} {G : qm_G} {Y : yY} (hG : yGG G Y) (this : Option Nat) (p1 : Int) : yMM (yQr G Y) l G Y jy_ASB_append_c97b9 prog_14_method_32_code 4 (some (.object "java/lang/AbstractStringBuilder")) 1 26 [va_rf this, yi p1] (kf_ASB_append_c97b9 Y this p1) :=
  y_met (by decide +kernel) jd_ASB_append_c97b9 (fun v hv => by simp only [List.mem_cons, List.not_mem_nil, or_false] at hv; rcases hv with rfl | rfl <;> first | exact yc_D _ | rfl) (by exact Nat.le_of_ble_eq_true rfl) hG (fun X Fn r0 w0 hl hg hn hX hR => by subst hl; subst hg; exact kb_ASB_append_c97b9 hX ⟨⟨hR.1.1, hR.1.2, Or.inl ⟨_, rfl⟩⟩, hR.2⟩ this p1)
def jl_SB_append_15ec4 : List qm_I := [(0, .aload_n 0, 1, 1), (1, .aload_n 1, 1, 2), (2, .invokespecial 29, 3, 5), (5, .pop, 1, 6), (6, .aload_n 0, 1, 7), (7, .areturn, 1, 8)]
theorem jd_SB_append_15ec4 : qm_D prog_20_method_7_code jl_SB_append_15ec4 := qm_D_of (by decide +kernel)
noncomputable def kf_SB_append_15ec4 (Y : yY) (this : Option Nat) (p1 : Option Nat) : yM (Option Nat) :=
  yB (yKr 21 this (kf_ASB_append_cf1ce Y this p1)) fun x1 =>
  yB (yNn this) fun _ =>
  yP this
set_option maxRecDepth 20000 in
set_option maxHeartbeats 4000000 in
theorem kb_SB_append_15ec4 {X : qm_X} {Y : yY} {Fn : yFn} (hX : y_ok X Y Fn "java/lang/StringBuilder" prog_20_method_7_code 2 4 93 jl_SB_append_15ec4) {r0 : Option Nat} {w0 : yW} (hR : y_RR X Y Fn r0 w0 (.object "java/lang/StringBuilder")) (this : Option Nat) (p1 : Option Nat) : yb X Y Fn (kf_SB_append_15ec4 Y this p1) 0 [some (va_rf this), some (va_rf p1)] [] (fun r w1 => r = r0 ∧ w1 = w0) := by
  unfold kf_SB_append_15ec4
  refine y_aload_n hX 0 rfl rfl ?_
  refine y_aload_n hX 1 rfl rfl ?_
  refine y_calR hX y_gRo (y_hrSUo hX 2 (t := 11) (As := [va_rf p1]) (a := this) rfl ycw_SB_29 (fun p e => by cases e; exact km_ASB_append_cf1ce (yk_G hX) p p1) (by decide) ⟨rfl, rfl, by decide, by decide⟩ rfl (Nat.le_trans y_cn (by decide))) (fun x1 => ?_)
  refine y_pop hX 3 rfl (yc_D _) ?_
  refine y_aload_n hX 4 rfl rfl ?_
  exact y_aret hX 5 rfl hR (fun _ h => h)
theorem km_SB_append_15ec4 {l : Launch} {G : qm_G} {Y : yY} (hG : yGG G Y) (this : Option Nat) (p1 : Option Nat) : yMM (yQr G Y) l G Y jy_SB_append_15ec4 prog_20_method_7_code 2 (some (.object "java/lang/StringBuilder")) 4 93 [va_rf this, va_rf p1] (kf_SB_append_15ec4 Y this p1) :=
  y_met (by decide +kernel) jd_SB_append_15ec4 (fun v hv => by simp only [List.mem_cons, List.not_mem_nil, or_false] at hv; rcases hv with rfl | rfl <;> first | exact yc_D _ | rfl) (by exact Nat.le_of_ble_eq_true rfl) hG (fun X Fn r0 w0 hl hg hn hX hR => by subst hl; subst hg; exact kb_SB_append_15ec4 hX ⟨⟨hR.1.1, hR.1.2, Or.inl ⟨_, rfl⟩⟩, hR.2⟩ this p1)
def jl_SB_append_cf468 : List qm_I := [(0, .aload_n 0, 1, 1), (1, .iload_n 1, 1, 2), (2, .invokespecial 50, 3, 5), (5, .pop, 1, 6), (6, .aload_n 0, 1, 7), (7, .areturn, 1, 8)]
theorem jd_SB_append_cf468 : qm_D prog_20_method_14_code jl_SB_append_cf468 := qm_D_of (by decide +kernel)
noncomputable def kf_SB_append_cf468 (Y : yY) (this : Option Nat) (p1 : Int) : yM (Option Nat) :=
  yB (yKr 21 this (kf_ASB_append_3fe6f Y this p1)) fun x1 =>
  yB (yNn this) fun _ =>
  yP this
set_option maxRecDepth 20000 in
set_option maxHeartbeats 4000000 in
theorem kb_SB_append_cf468 {X : qm_X} {Y : yY} {Fn : yFn} (hX : y_ok X Y Fn "java/lang/StringBuilder" prog_20_method_14_code 2 2 43 jl_SB_append_cf468) {r0 : Option Nat} {w0 : yW} (hR : y_RR X Y Fn r0 w0 (.object "java/lang/StringBuilder")) (this : Option Nat) (p1 : Int) : yb X Y Fn (kf_SB_append_cf468 Y this p1) 0 [some (va_rf this), some (yi p1)] [] (fun r w1 => r = r0 ∧ w1 = w0) := by
  unfold kf_SB_append_cf468
  refine y_aload_n hX 0 rfl rfl ?_
  refine y_iload_n hX 1 rfl rfl ?_
  refine y_calR hX y_gRo (y_hrSUo hX 2 (t := 11) (As := [yi p1]) (a := this) rfl ycw_SB_50 (fun p e => by cases e; exact km_ASB_append_3fe6f (yk_G hX) p p1) (by decide) ⟨rfl, rfl, by decide, by decide⟩ rfl (Nat.le_trans y_cn (by decide))) (fun x1 => ?_)
  refine y_pop hX 3 rfl (yc_D _) ?_
  refine y_aload_n hX 4 rfl rfl ?_
  exact y_aret hX 5 rfl hR (fun _ h => h)
theorem km_SB_append_cf468 {l : Launch} {G : qm_G} {Y : yY} (hG : yGG G Y) (this : Option Nat) (p1 : Int) : yMM (yQr G Y) l G Y jy_SB_append_cf468 prog_20_method_14_code 2 (some (.object "java/lang/StringBuilder")) 2 43 [va_rf this, yi p1] (kf_SB_append_cf468 Y this p1) :=
  y_met (by decide +kernel) jd_SB_append_cf468 (fun v hv => by simp only [List.mem_cons, List.not_mem_nil, or_false] at hv; rcases hv with rfl | rfl <;> first | exact yc_D _ | rfl) (by exact Nat.le_of_ble_eq_true rfl) hG (fun X Fn r0 w0 hl hg hn hX hR => by subst hl; subst hg; exact kb_SB_append_cf468 hX ⟨⟨hR.1.1, hR.1.2, Or.inl ⟨_, rfl⟩⟩, hR.2⟩ this p1)
def jl_SB_append_bf812 : List qm_I := [(0, .aload_n 0, 1, 1), (1, .iload_n 1, 1, 2), (2, .invokespecial 53, 3, 5), (5, .pop, 1, 6), (6, .aload_n 0, 1, 7), (7, .areturn, 1, 8)]
theorem jd_SB_append_bf812 : qm_D prog_20_method_15_code jl_SB_append_bf812 := qm_D_of (by decide +kernel)
noncomputable def kf_SB_append_bf812 (Y : yY) (this : Option Nat) (p1 : Int) : yM (Option Nat) :=
  yB (yKr 21 this (kf_ASB_append_c97b9 Y this p1)) fun x1 =>
  yB (yNn this) fun _ =>
  yP this
set_option maxRecDepth 20000 in
set_option maxHeartbeats 4000000 in
theorem kb_SB_append_bf812 {X : qm_X} {Y : yY} {Fn : yFn} (hX : y_ok X Y Fn "java/lang/StringBuilder" prog_20_method_15_code 2 2 49 jl_SB_append_bf812) {r0 : Option Nat} {w0 : yW} (hR : y_RR X Y Fn r0 w0 (.object "java/lang/StringBuilder")) (this : Option Nat) (p1 : Int) : yb X Y Fn (kf_SB_append_bf812 Y this p1) 0 [some (va_rf this), some (yi p1)] [] (fun r w1 => r = r0 ∧ w1 = w0) := by
  unfold kf_SB_append_bf812
  refine y_aload_n hX 0 rfl rfl ?_
  refine y_iload_n hX 1 rfl rfl ?_
  refine y_calR hX y_gRo (y_hrSUo hX 2 (t := 11) (As := [yi p1]) (a := this) rfl ycw_SB_53 (fun p e => by cases e; exact km_ASB_append_c97b9 (yk_G hX) p p1) (by decide) ⟨rfl, rfl, by decide, by decide⟩ rfl (Nat.le_trans y_cn (by decide))) (fun x1 => ?_)
  refine y_pop hX 3 rfl (yc_D _) ?_
  refine y_aload_n hX 4 rfl rfl ?_
  exact y_aret hX 5 rfl hR (fun _ h => h)
theorem km_SB_append_bf812 {l : Launch} {G : qm_G} {Y : yY} (hG : yGG G Y) (this : Option Nat) (p1 : Int) : yMM (yQr G Y) l G Y jy_SB_append_bf812 prog_20_method_15_code 2 (some (.object "java/lang/StringBuilder")) 2 49 [va_rf this, yi p1] (kf_SB_append_bf812 Y this p1) :=
  y_met (by decide +kernel) jd_SB_append_bf812 (fun v hv => by simp only [List.mem_cons, List.not_mem_nil, or_false] at hv; rcases hv with rfl | rfl <;> first | exact yc_D _ | rfl) (by exact Nat.le_of_ble_eq_true rfl) hG (fun X Fn r0 w0 hl hg hn hX hR => by subst hl; subst hg; exact kb_SB_append_bf812 hX ⟨⟨hR.1.1, hR.1.2, Or.inl ⟨_, rfl⟩⟩, hR.2⟩ this p1)
def jl_Arrays_checkLength : List qm_I := [(0, .iload_n 1, 1, 1), (1, .iload_n 0, 1, 2), (2, .if_icmp .ge 35, 3, 5), (5, .new 43, 3, 8), (8, .dup, 1, 9), (9, .new 45, 3, 12), (12, .dup, 1, 13), (13, .invokespecial 47, 3, 16), (16, .iload_n 0, 1, 17), (17, .invokevirtual 54, 3, 20), (20, .ldc_w 337, 3, 23), (23, .invokevirtual 50, 3, 26), (26, .iload_n 1, 1, 27), (27, .invokevirtual 54, 3, 30), (30, .invokevirtual 61, 3, 33), (33, .invokespecial 65, 3, 36), (36, .athrow, 1, 37), (37, .return_, 1, 38)]
theorem jd_Arrays_checkLength : qm_D prog_24_method_131_code jl_Arrays_checkLength := qm_D_of (by decide +kernel)
noncomputable def kf_Arrays_checkLength (Y : yY) (p1 : Int) (p2 : Int) : yM Unit :=
  yB (yR2 p2 p1) fun _ =>
  if p1 ≤ p2 then
    yP ()
  else
    yF
set_option maxRecDepth 20000 in
set_option maxHeartbeats 4000000 in
theorem kb_Arrays_checkLength {X : qm_X} {Y : yY} {Fn : yFn} (hX : y_ok X Y Fn "java/util/Arrays" prog_24_method_131_code 2 0 0 jl_Arrays_checkLength) {w0 : yW} (hR : y_RV X Y Fn w0) (p1 : Int) (p2 : Int) : yb X Y Fn (kf_Arrays_checkLength Y p1 p2) 0 [some (yi p1), some (yi p2)] [] (fun r w1 => r = () ∧ w1 = w0) := by
  unfold kf_Arrays_checkLength
  refine y_iload_n hX 0 rfl rfl ?_
  refine y_iload_n hX 1 rfl rfl ?_
  refine y_icge hX 2 37 rfl (by decide) ?_ ?_
  ·
    exact y_vret hX 17 rfl hR (fun _ h => And.right h)
  ·
    exact y_F
theorem km_Arrays_checkLength {l : Launch} {G : qm_G} {Y : yY} (hG : yGG G Y) (p1 : Int) (p2 : Int) : yMM (yQv G Y) l G Y jy_Arrays_checkLength prog_24_method_131_code 2 none 0 0 [yi p1, yi p2] (kf_Arrays_checkLength Y p1 p2) :=
  y_met (by decide +kernel) jd_Arrays_checkLength (fun v hv => by simp only [List.mem_cons, List.not_mem_nil, or_false] at hv; rcases hv with rfl | rfl <;> first | exact yc_D _ | rfl) (by exact Nat.le_of_ble_eq_true rfl) hG (fun X Fn r0 w0 hl hg hn hX hR => by subst hl; subst hg; exact kb_Arrays_checkLength hX hR p1 p2)
def jl_Arrays_copyOfRangeByte : List qm_I := [(0, .iload_n 1, 1, 1), (1, .iload_n 2, 1, 2), (2, .invokestatic 343, 3, 5), (5, .iload_n 2, 1, 6), (6, .iload_n 1, 1, 7), (7, .isub, 1, 8), (8, .istore_n 3, 1, 9), (9, .iload_n 3, 1, 10), (10, .newarray .byte, 2, 12), (12, .astore 4, 2, 14), (14, .aload_n 0, 1, 15), (15, .iload_n 1, 1, 16), (16, .aload 4, 2, 18), (18, .iconst 0, 1, 19), (19, .aload_n 0, 1, 20), (20, .arraylength, 1, 21), (21, .iload_n 1, 1, 22), (22, .isub, 1, 23), (23, .iload_n 3, 1, 24), (24, .invokestatic 304, 3, 27), (27, .invokestatic 150, 3, 30), (30, .aload 4, 2, 32), (32, .areturn, 1, 33)]
theorem jd_Arrays_copyOfRangeByte : qm_D prog_24_method_133_code jl_Arrays_copyOfRangeByte := qm_D_of (by decide +kernel)
noncomputable def kf_Arrays_copyOfRangeByte (Y : yY) (p1 : Option Nat) (p2 : Int) (p3 : Int) : yM (Option Nat) :=
  yB (yK (kf_Arrays_checkLength Y p2 p3)) fun _ =>
  yB (yP (p3 - p2)) fun x2 =>
  yB (yNa 3 x2) fun x3 =>
  yB (yP x3) fun x4 =>
  yB (yLn p1) fun x5 =>
  yB (yMin (x5 - p2) x2) fun x6 =>
  yB (yCp 3 p1 p2 x4 (0 : Int) x6) fun _ =>
  yB (yNn x4) fun _ =>
  yP x4
set_option maxRecDepth 20000 in
set_option maxHeartbeats 4000000 in
theorem kb_Arrays_copyOfRangeByte {X : qm_X} {Y : yY} {Fn : yFn} (hX : y_ok X Y Fn "java/util/Arrays" prog_24_method_133_code 5 1 26 jl_Arrays_copyOfRangeByte) {r0 : Option Nat} {w0 : yW} (hR : y_RR X Y Fn r0 w0 (.array (.byte))) (p1 : Option Nat) (p2 : Int) (p3 : Int) : yb X Y Fn (kf_Arrays_copyOfRangeByte Y p1 p2 p3) 0 [some (va_rf p1), some (yi p2), some (yi p3), none, none] [] (fun r w1 => r = r0 ∧ w1 = w0) := by
  unfold kf_Arrays_copyOfRangeByte
  refine y_iload_n hX 0 rfl rfl ?_
  refine y_iload_n hX 1 rfl rfl ?_
  refine y_calV hX y_gK (y_hrS hX 2 (As := [yi p2, yi p3]) rfl ycw_Arrays_343 (km_Arrays_checkLength (yk_G hX) p2 p3) ⟨rfl, by decide, by decide⟩ rfl (Nat.le_trans y_cn (by decide))) ?_
  refine y_iload_n hX 3 rfl rfl ?_
  refine y_iload_n hX 4 rfl rfl ?_
  refine y_isub hX 5 rfl ?_
  refine y_istore_n hX 6 (fun x2 => [some (va_rf p1), some (yi p2), some (yi p3), some (yi x2), none]) rfl (by decide) (fun _ => rfl) (fun x2 => ?_)
  refine y_iload_n hX 7 rfl rfl ?_
  refine y_newa hX 8 (t := 3) rfl zw_byte rfl (by decide) (fun x3 => ?_)
  refine y_astore hX 9 (fun x4 => [some (va_rf p1), some (yi p2), some (yi p3), some (yi x2), some (va_rf x4)]) rfl (by decide) (fun _ => rfl) (fun x4 => ?_)
  refine y_aload_n hX 10 rfl rfl ?_
  refine y_iload_n hX 11 rfl rfl ?_
  refine y_aload hX 12 rfl rfl ?_
  refine y_iconst hX 13 0 rfl (by decide) ?_
  refine y_aload_n hX 14 rfl rfl ?_
  refine y_alen hX 15 rfl (fun x5 => ?_)
  refine y_iload_n hX 16 rfl rfl ?_
  refine y_isub hX 17 rfl ?_
  refine y_iload_n hX 18 rfl rfl ?_
  refine y_mmin hX 19 rfl ycs_Arrays_304 ⟨by decide, by decide⟩ (Nat.le_trans (y_cs (yc_I _) (y_cs (yc_D _) (y_cs (yc_I _) (y_cs (yc_D _) y_cn)))) (by decide)) (fun x6 => ?_)
  refine y_copy hX 20 (t := 3) (by decide) rfl yac_Arrays_150 yar_1 yar_2 yar_3 ⟨by decide, by decide⟩ (Nat.le_trans y_cn (by decide)) ?_
  refine y_aload hX 21 rfl rfl ?_
  exact y_aret hX 22 rfl hR (fun _ h => h)
theorem km_Arrays_copyOfRangeByte {l : Launch} {G : qm_G} {Y : yY} (hG : yGG G Y) (p1 : Option Nat) (p2 : Int) (p3 : Int) : yMM (yQr G Y) l G Y jy_Arrays_copyOfRangeByte prog_24_method_133_code 5 (some (.array (.byte))) 1 26 [va_rf p1, yi p2, yi p3] (kf_Arrays_copyOfRangeByte Y p1 p2 p3) :=
  y_met (by decide +kernel) jd_Arrays_copyOfRangeByte (fun v hv => by simp only [List.mem_cons, List.not_mem_nil, or_false] at hv; rcases hv with rfl | rfl | rfl <;> first | exact yc_D _ | rfl) (by exact Nat.le_of_ble_eq_true rfl) hG (fun X Fn r0 w0 hl hg hn hX hR => by subst hl; subst hg; exact kb_Arrays_copyOfRangeByte hX ⟨⟨hR.1.1, hR.1.2, Or.inr ⟨_, rfl⟩⟩, hR.2⟩ p1 p2 p3)
def jl_Arrays_copyOfRange : List qm_I := [(0, .iload_n 1, 1, 1), (1, .ifCond .ne 9, 3, 4), (4, .iload_n 2, 1, 5), (5, .aload_n 0, 1, 6), (6, .arraylength, 1, 7), (7, .if_icmp .eq 10, 3, 10), (10, .aload_n 0, 1, 11), (11, .iload_n 1, 1, 12), (12, .iload_n 2, 1, 13), (13, .invokestatic 339, 3, 16), (16, .areturn, 1, 17), (17, .aload_n 0, 1, 18), (18, .invokevirtual 310, 3, 21), (21, .checkcast 311, 3, 24), (24, .areturn, 1, 25)]
theorem jd_Arrays_copyOfRange : qm_D prog_24_method_132_code jl_Arrays_copyOfRange := qm_D_of (by decide +kernel)
noncomputable def kf_Arrays_copyOfRange (Y : yY) (p1 : Option Nat) (p2 : Int) (p3 : Int) : yM (Option Nat) :=
  yB (α := Unit) (
    yB (yR p2) fun _ =>
    if ¬ p2 = 0 then
      yP ()
    else
      yB (yLn p1) fun x2 =>
      yB (yR2 p3 x2) fun _ =>
      if p3 = x2 then
        yF
      else
        yP ()) fun s1 =>
  yB (yK (kf_Arrays_copyOfRangeByte Y p1 p2 p3)) fun x3 =>
  yB (yNn x3) fun _ =>
  yP x3
set_option maxRecDepth 20000 in
set_option maxHeartbeats 4000000 in
theorem kb_Arrays_copyOfRange {X : qm_X} {Y : yY} {Fn : yFn} (hX : y_ok X Y Fn "java/util/Arrays" prog_24_method_132_code 3 2 50 jl_Arrays_copyOfRange) {r0 : Option Nat} {w0 : yW} (hR : y_RR X Y Fn r0 w0 (.array (.byte))) (p1 : Option Nat) (p2 : Int) (p3 : Int) : yb X Y Fn (kf_Arrays_copyOfRange Y p1 p2 p3) 0 [some (va_rf p1), some (yi p2), some (yi p3)] [] (fun r w1 => r = r0 ∧ w1 = w0) := by
  unfold kf_Arrays_copyOfRange
  refine y_iload_n hX 0 rfl rfl ?_
  refine y_join (S := Unit) 10 (fun s1 => [some (va_rf p1), some (yi p2), some (yi p3)]) (fun s1 => []) ?_ ?_
  ·
    refine y_ifne hX 1 10 rfl (by decide) ?_ ?_
    ·
      exact y_exit (fun w h => yj_wk (ρ' := [some (va_rf p1), some (yi p2), some (yi p3)]) (qw_s (qw_s (qw_s (qw_0)))) h)
    ·
      refine y_iload_n hX 2 rfl rfl ?_
      refine y_aload_n hX 3 rfl rfl ?_
      refine y_alen hX 4 rfl (fun x2 => ?_)
      refine y_iceq hX 5 17 rfl (by decide) ?_ ?_
      ·
        exact y_F
      ·
        exact y_exit (fun w h => yj_wk (ρ' := [some (va_rf p1), some (yi p2), some (yi p3)]) (qw_s (qw_s (qw_s (qw_0)))) h)
  · intro s1
    refine y_aload_n hX 6 rfl rfl ?_
    refine y_iload_n hX 7 rfl rfl ?_
    refine y_iload_n hX 8 rfl rfl ?_
    refine y_calR hX y_gK (y_hrS hX 9 (As := [va_rf p1, yi p2, yi p3]) rfl ycw_Arrays_339 (km_Arrays_copyOfRangeByte (yk_G hX) p1 p2 p3) ⟨rfl, by decide, by decide⟩ rfl (Nat.le_trans y_cn (by decide))) (fun x3 => ?_)
    exact y_aret hX 10 rfl hR (fun _ h => h)
theorem km_Arrays_copyOfRange {l : Launch} {G : qm_G} {Y : yY} (hG : yGG G Y) (p1 : Option Nat) (p2 : Int) (p3 : Int) : yMM (yQr G Y) l G Y jy_Arrays_copyOfRange prog_24_method_132_code 3 (some (.array (.byte))) 2 50 [va_rf p1, yi p2, yi p3] (kf_Arrays_copyOfRange Y p1 p2 p3) :=
  y_met (by decide +kernel) jd_Arrays_copyOfRange (fun v hv => by simp only [List.mem_cons, List.not_mem_nil, or_false] at hv; rcases hv with rfl | rfl | rfl <;> first | exact yc_D _ | rfl) (by exact Nat.le_of_ble_eq_true rfl) hG (fun X Fn r0 w0 hl hg hn hX hR => by subst hl; subst hg; exact kb_Arrays_copyOfRange hX ⟨⟨hR.1.1, hR.1.2, Or.inr ⟨_, rfl⟩⟩, hR.2⟩ p1 p2 p3)
