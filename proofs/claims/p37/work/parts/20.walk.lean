def jl_Run_setting : List qm_I := [(0, .iload_n 1, 1, 1), (1, .ifCond .lt 18, 3, 4), (4, .iload_n 1, 1, 5), (5, .bipush 8, 2, 7), (7, .if_icmp .ge 12, 3, 10), (10, .aload_n 0, 1, 11), (11, .getfield 11, 3, 14), (14, .iload_n 1, 1, 15), (15, .iaload, 1, 16), (16, .goto 4, 3, 19), (19, .iconst 0, 1, 20), (20, .ireturn, 1, 21)]
theorem jd_Run_setting : qm_D prog_6_method_5_code jl_Run_setting := qm_D_of (by decide +kernel)
noncomputable def jf_Run_setting (this : Nat) (p1 : Int32) : qm_M Int32 :=
  if p1 < 0 then
    mP 0
  else
    if 8 ≤ p1 then
      mP 0
    else
      mB (mLd (qm_rf this 1) p1) fun x1 =>
      mP x1
set_option maxRecDepth 20000 in
set_option maxHeartbeats 4000000 in
theorem jb_Run_setting {X : qm_X} (hX : qm_ok X qr_Run prog_6_method_5_code 2 0 0 jl_Run_setting) {r0 : Int32} {σ0 : qm_Mem} (hR : qm_RI X r0 σ0 .int) (this : Nat) (p1 : Int32) (hthis : (qm_kd this).1 = 14) : qm_B X (jf_Run_setting this p1) 0 [some (.ref (qx_ad X this)), some (.int p1)] [] (fun r σ1 => r = r0 ∧ σ1 = σ0) := by
  unfold jf_Run_setting
  refine qb_iload_n hX 0 rfl rfl ?_
  refine qb_iflt hX 1 19 rfl (by decide) ?_ ?_
  ·
    refine qb_iconst hX 10 0 rfl (by decide) ?_
    exact qb_iret hX 11 rfl hR (fun _ h => h)
  ·
    refine qb_iload_n hX 2 rfl rfl ?_
    refine qb_bipush hX 3 8 rfl (by decide) ?_
    refine qb_icge hX 4 19 rfl (by decide) ?_ ?_
    ·
      refine qb_iconst hX 10 0 rfl (by decide) ?_
      exact qb_iret hX 11 rfl hR (fun _ h => h)
    ·
      refine qb_aload_n hX 5 rfl rfl ?_
      refine qb_getR hX 6 rfl fl_Run_11 hthis rfl ?_
      refine qb_iload_n hX 7 rfl rfl ?_
      refine qb_iald hX 8 rfl (kf_Run_1 hthis) (fun x1 => ?_)
      refine qb_goto hX 9 (tgt := 20) rfl (by decide) ?_
      exact qb_iret hX 11 rfl hR (fun _ h => h)
theorem jm_Run_setting {l : Launch} {G : qm_G} (hG : qm_GI G) (this : Nat) (p1 : Int32) (hthis : (qm_kd this).1 = 14) : qm_MI l G jy_Run_setting prog_6_method_5_code 2 (some .int) 0 0 [.ref (G.1 this), .int p1] (jf_Run_setting this p1) :=
  qm_metI (by decide +kernel) jd_Run_setting (fun v hv => by simp only [List.mem_cons, List.not_mem_nil, or_false] at hv; rcases hv with rfl | rfl <;> rfl) (by exact Nat.le_of_ble_eq_true rfl) hG rfl (fun X hl hg hX r0 σ0 hR => by subst hl; subst hg; exact jb_Run_setting hX hR this p1 hthis)
def jl_Fitter_forget : List qm_I := [(0, .aload_n 0, 1, 1), (1, .aload_n 0, 1, 2), (2, .getfield 9, 3, 5), (5, .bipush 6, 2, 7), (7, .invokevirtual 35, 3, 10), (10, .putfield 41, 3, 13), (13, .aload_n 0, 1, 14), (14, .aload_n 0, 1, 15), (15, .getfield 9, 3, 18), (18, .iconst 5, 1, 19), (19, .invokevirtual 35, 3, 22), (22, .putfield 45, 3, 25), (25, .aload_n 0, 1, 26), (26, .iconst (-1), 1, 27), (27, .putfield 48, 3, 30), (30, .aload_n 0, 1, 31), (31, .getfield 28, 3, 34), (34, .ifCond .eq 32, 3, 37), (37, .iconst 0, 1, 38), (38, .istore_n 1, 1, 39), (39, .iload_n 1, 1, 40), (40, .aload_n 0, 1, 41), (41, .getfield 24, 3, 44), (44, .arraylength, 1, 45), (45, .if_icmp .ge 16, 3, 48), (48, .aload_n 0, 1, 49), (49, .getfield 24, 3, 52), (52, .iload_n 1, 1, 53), (53, .iconst (-1), 1, 54), (54, .iastore, 1, 55), (55, .iinc 1 1, 3, 58), (58, .goto (-19), 3, 61), (61, .aload_n 0, 1, 62), (62, .iconst 0, 1, 63), (63, .putfield 28, 3, 66), (66, .return_, 1, 67)]
theorem jd_Fitter_forget : qm_D prog_2_method_2_code jl_Fitter_forget := qm_D_of (by decide +kernel)
noncomputable def jf_Fitter_forget (this : Nat) : qm_M Unit :=
  mB (jf_Run_setting (qm_rf this 0) 6) fun x1 =>
  mB (mPt this 2 x1) fun _ =>
  mB (jf_Run_setting (qm_rf this 0) 5) fun x2 =>
  mB (mPt this 3 x2) fun _ =>
  mB (mPt this 5 (-1)) fun _ =>
  mB (mGt this 9) fun x3 =>
  if x3 = 0 then
    mP ()
  else
    mB (α := Unit) (
      mW (S := Int32) (α := Unit) (fun s5 =>
        if (Int32.ofNat (qm_kd (qm_rf this 8)).2) ≤ s5 then
          mP (Sum.inr ())
        else
          mB (mSt (qm_rf this 8) s5 (-1)) fun _ =>
          mB (mP (s5 + 1)) fun x6 =>
          mP (Sum.inl x6)) 0) fun s4 =>
    mB (mPz this 9 0) fun _ =>
    mP ()
set_option maxRecDepth 20000 in
set_option maxHeartbeats 4000000 in
theorem jb_Fitter_forget {X : qm_X} (hX : qm_ok X qr_Fitter prog_2_method_2_code 2 1 21 jl_Fitter_forget) {σ0 : qm_Mem} (hR : qm_RV X σ0) (this : Nat) (hthis : (qm_kd this).1 = 10) : qm_B X (jf_Fitter_forget this) 0 [some (.ref (qx_ad X this)), none] [] (fun _ σ1 => σ1 = σ0) := by
  unfold jf_Fitter_forget
  refine qb_aload_n hX 0 rfl rfl ?_
  refine qb_aload_n hX 1 rfl rfl ?_
  refine qb_getR hX 2 rfl fl_Fitter_9 hthis rfl ?_
  refine qb_bipush hX 3 6 rfl (by decide) ?_
  refine qb_callI hX 4 rfl cv_Fitter_35 (jm_Run_setting (qk_GI hX) (qm_rf this 0) 6 (kf_Fitter_0 hthis) ) (ci := 4) (kf_Fitter_0 hthis) ⟨rfl, rfl, rfl, by decide, by decide⟩ rfl (by exact Nat.le_of_ble_eq_true rfl) (fun x1 => ?_)
  refine qb_put hX 5 rfl fp_Fitter_41 hthis ?_
  refine qb_aload_n hX 6 rfl rfl ?_
  refine qb_aload_n hX 7 rfl rfl ?_
  refine qb_getR hX 8 rfl fl_Fitter_9 hthis rfl ?_
  refine qb_iconst hX 9 5 rfl (by decide) ?_
  refine qb_callI hX 10 rfl cv_Fitter_35 (jm_Run_setting (qk_GI hX) (qm_rf this 0) 5 (kf_Fitter_0 hthis) ) (ci := 4) (kf_Fitter_0 hthis) ⟨rfl, rfl, rfl, by decide, by decide⟩ rfl (by exact Nat.le_of_ble_eq_true rfl) (fun x2 => ?_)
  refine qb_put hX 11 rfl fp_Fitter_45 hthis ?_
  refine qb_aload_n hX 12 rfl rfl ?_
  refine qb_iconst hX 13 (-1) rfl (by decide) ?_
  refine qb_put hX 14 rfl fp_Fitter_48 hthis ?_
  refine qb_aload_n hX 15 rfl rfl ?_
  refine qb_get hX 16 rfl fl_Fitter_28 hthis rfl (fun x3 => ?_)
  refine qb_ifeq hX 17 66 rfl (by decide) ?_ ?_
  ·
    exact qb_vret hX 35 rfl hR (fun _ h => h)
  ·
    refine qb_iconst hX 18 0 rfl (by decide) ?_
    refine qb_istore_n hX 19 ([some (.ref (qx_ad X this)), some (.int 0)]) rfl (by decide) rfl ?_
    refine qb_join 61 (fun s4 => [some (.ref (qx_ad X this)), none]) (fun s4 => []) ?_ ?_
    ·
      refine qb_loopw (0) (fun s5 => [some (.ref (qx_ad X this)), some (.int s5)]) (qw_s (qw_s (qw_0))) (fun s5 => ?_)
      refine qb_iload_n hX 20 rfl rfl ?_
      refine qb_aload_n hX 21 rfl rfl ?_
      refine qb_getR hX 22 rfl fl_Fitter_24 hthis rfl ?_
      refine qb_alen hX 23 (Int32.ofNat (qm_kd (qm_rf this 8)).2) rfl (Or.inl (kf_Fitter_8 hthis)) rfl ?_
      refine qb_icge hX 24 61 rfl (by decide) ?_ ?_
      ·
        exact qb_exit (fun σ h => qj_wk (ρ' := [some (.ref (qx_ad X this)), none]) (qw_s (qw_n (qw_0))) h)
      ·
        refine qb_aload_n hX 25 rfl rfl ?_
        refine qb_getR hX 26 rfl fl_Fitter_24 hthis rfl ?_
        refine qb_iload_n hX 27 rfl rfl ?_
        refine qb_iconst hX 28 (-1) rfl (by decide) ?_
        refine qb_iast hX 29 rfl (kf_Fitter_8 hthis) ?_
        refine qb_iinc hX 30 1 (fun x6 => [some (.ref (qx_ad X this)), some (.int x6)]) rfl (by decide) (by decide) rfl (fun _ => rfl) (fun x6 => ?_)
        exact qb_exit (fun σ h => qj_goto hX 31 rfl (by decide) (qj_wk (ρ' := [some (.ref (qx_ad X this)), some (.int x6)]) (qw_s (qw_s (qw_0))) h))
    · intro s4
      refine qb_aload_n hX 32 rfl rfl ?_
      refine qb_iconst hX 33 0 rfl (by decide) ?_
      refine qb_putZ hX 34 rfl fp_Fitter_28 hthis ?_
      exact qb_vret hX 35 rfl hR (fun _ h => h)
theorem jm_Fitter_forget {l : Launch} {G : qm_G} (hG : qm_GI G) (this : Nat) (hthis : (qm_kd this).1 = 10) : qm_MV l G jy_Fitter_forget prog_2_method_2_code 2 1 21 [.ref (G.1 this)] (jf_Fitter_forget this) :=
  qm_metV (by decide +kernel) jd_Fitter_forget (fun v hv => by simp only [List.mem_cons, List.not_mem_nil, or_false] at hv; rcases hv with rfl <;> rfl) (by exact Nat.le_of_ble_eq_true rfl) hG (fun X hl hg hX σ0 hR => by subst hl; subst hg; exact jb_Fitter_forget hX hR this hthis)
def jl_Flow_text : List qm_I := [(0, .iload_n 1, 1, 1), (1, .ifCond .lt 14, 3, 4), (4, .iload_n 1, 1, 5), (5, .iload_n 2, 1, 6), (6, .if_icmp .ge 9, 3, 9), (9, .iload_n 2, 1, 10), (10, .bipush 91, 2, 12), (12, .if_icmp .lt 5, 3, 15), (15, .iconst 0, 1, 16), (16, .ireturn, 1, 17), (17, .aload_n 0, 1, 18), (18, .getfield 40, 3, 21), (21, .iload_n 2, 1, 22), (22, .iaload, 1, 23), (23, .aload_n 0, 1, 24), (24, .getfield 40, 3, 27), (27, .iload_n 1, 1, 28), (28, .iaload, 1, 29), (29, .isub, 1, 30), (30, .aload_n 0, 1, 31), (31, .getfield 28, 3, 34), (34, .iload_n 1, 1, 35), (35, .iaload, 1, 36), (36, .isub, 1, 37), (37, .aload_n 0, 1, 38), (38, .getfield 37, 3, 41), (41, .iload_n 1, 1, 42), (42, .iaload, 1, 43), (43, .iadd, 1, 44), (44, .ireturn, 1, 45)]
theorem jd_Flow_text : qm_D prog_3_method_14_code jl_Flow_text := qm_D_of (by decide +kernel)
noncomputable def jf_Flow_text (this : Nat) (p1 : Int32) (p2 : Int32) : qm_M Int32 :=
  if p1 < 0 then
    mP 0
  else
    if p2 ≤ p1 then
      mP 0
    else
      if p2 < 91 then
        mB (mLd (qm_rf this 12) p2) fun x1 =>
        mB (mLd (qm_rf this 12) p1) fun x2 =>
        mB (mLd (qm_rf this 8) p1) fun x3 =>
        mB (mLd (qm_rf this 11) p1) fun x4 =>
        mP (((x1 - x2) - x3) + x4)
      else
        mP 0
set_option maxRecDepth 20000 in
set_option maxHeartbeats 4000000 in
theorem jb_Flow_text {X : qm_X} (hX : qm_ok X qr_Flow prog_3_method_14_code 3 0 0 jl_Flow_text) {r0 : Int32} {σ0 : qm_Mem} (hR : qm_RI X r0 σ0 .int) (this : Nat) (p1 : Int32) (p2 : Int32) (hthis : (qm_kd this).1 = 11) : qm_B X (jf_Flow_text this p1 p2) 0 [some (.ref (qx_ad X this)), some (.int p1), some (.int p2)] [] (fun r σ1 => r = r0 ∧ σ1 = σ0) := by
  unfold jf_Flow_text
  refine qb_iload_n hX 0 rfl rfl ?_
  refine qb_iflt hX 1 15 rfl (by decide) ?_ ?_
  ·
    refine qb_iconst hX 8 0 rfl (by decide) ?_
    exact qb_iret hX 9 rfl hR (fun _ h => h)
  ·
    refine qb_iload_n hX 2 rfl rfl ?_
    refine qb_iload_n hX 3 rfl rfl ?_
    refine qb_icge hX 4 15 rfl (by decide) ?_ ?_
    ·
      refine qb_iconst hX 8 0 rfl (by decide) ?_
      exact qb_iret hX 9 rfl hR (fun _ h => h)
    ·
      refine qb_iload_n hX 5 rfl rfl ?_
      refine qb_bipush hX 6 91 rfl (by decide) ?_
      refine qb_iclt hX 7 17 rfl (by decide) ?_ ?_
      ·
        refine qb_aload_n hX 10 rfl rfl ?_
        refine qb_getR hX 11 rfl fl_Flow_40 hthis rfl ?_
        refine qb_iload_n hX 12 rfl rfl ?_
        refine qb_iald hX 13 rfl (kf_Flow_12 hthis) (fun x1 => ?_)
        refine qb_aload_n hX 14 rfl rfl ?_
        refine qb_getR hX 15 rfl fl_Flow_40 hthis rfl ?_
        refine qb_iload_n hX 16 rfl rfl ?_
        refine qb_iald hX 17 rfl (kf_Flow_12 hthis) (fun x2 => ?_)
        refine qb_isub hX 18 rfl ?_
        refine qb_aload_n hX 19 rfl rfl ?_
        refine qb_getR hX 20 rfl fl_Flow_28 hthis rfl ?_
        refine qb_iload_n hX 21 rfl rfl ?_
        refine qb_iald hX 22 rfl (kf_Flow_8 hthis) (fun x3 => ?_)
        refine qb_isub hX 23 rfl ?_
        refine qb_aload_n hX 24 rfl rfl ?_
        refine qb_getR hX 25 rfl fl_Flow_37 hthis rfl ?_
        refine qb_iload_n hX 26 rfl rfl ?_
        refine qb_iald hX 27 rfl (kf_Flow_11 hthis) (fun x4 => ?_)
        refine qb_iadd hX 28 rfl ?_
        exact qb_iret hX 29 rfl hR (fun _ h => h)
      ·
        refine qb_iconst hX 8 0 rfl (by decide) ?_
        exact qb_iret hX 9 rfl hR (fun _ h => h)
theorem jm_Flow_text {l : Launch} {G : qm_G} (hG : qm_GI G) (this : Nat) (p1 : Int32) (p2 : Int32) (hthis : (qm_kd this).1 = 11) : qm_MI l G jy_Flow_text prog_3_method_14_code 3 (some .int) 0 0 [.ref (G.1 this), .int p1, .int p2] (jf_Flow_text this p1 p2) :=
  qm_metI (by decide +kernel) jd_Flow_text (fun v hv => by simp only [List.mem_cons, List.not_mem_nil, or_false] at hv; rcases hv with rfl | rfl | rfl <;> rfl) (by exact Nat.le_of_ble_eq_true rfl) hG rfl (fun X hl hg hX r0 σ0 hR => by subst hl; subst hg; exact jb_Flow_text hX hR this p1 p2 hthis)
def jl_Flow_ownLines : List qm_I := [(0, .iload_n 1, 1, 1), (1, .ifCond .lt 14, 3, 4), (4, .iload_n 1, 1, 5), (5, .iload_n 2, 1, 6), (6, .if_icmp .ge 9, 3, 9), (9, .iload_n 2, 1, 10), (10, .bipush 91, 2, 12), (12, .if_icmp .lt 5, 3, 15), (15, .iconst 0, 1, 16), (16, .ireturn, 1, 17), (17, .aload_n 0, 1, 18), (18, .getfield 43, 3, 21), (21, .iload_n 2, 1, 22), (22, .iaload, 1, 23), (23, .aload_n 0, 1, 24), (24, .getfield 43, 3, 27), (27, .iload_n 1, 1, 28), (28, .iaload, 1, 29), (29, .isub, 1, 30), (30, .ireturn, 1, 31)]
theorem jd_Flow_ownLines : qm_D prog_3_method_12_code jl_Flow_ownLines := qm_D_of (by decide +kernel)
noncomputable def jf_Flow_ownLines (this : Nat) (p1 : Int32) (p2 : Int32) : qm_M Int32 :=
  if p1 < 0 then
    mP 0
  else
    if p2 ≤ p1 then
      mP 0
    else
      if p2 < 91 then
        mB (mLd (qm_rf this 13) p2) fun x1 =>
        mB (mLd (qm_rf this 13) p1) fun x2 =>
        mP (x1 - x2)
      else
        mP 0
set_option maxRecDepth 20000 in
set_option maxHeartbeats 4000000 in
theorem jb_Flow_ownLines {X : qm_X} (hX : qm_ok X qr_Flow prog_3_method_12_code 3 0 0 jl_Flow_ownLines) {r0 : Int32} {σ0 : qm_Mem} (hR : qm_RI X r0 σ0 .int) (this : Nat) (p1 : Int32) (p2 : Int32) (hthis : (qm_kd this).1 = 11) : qm_B X (jf_Flow_ownLines this p1 p2) 0 [some (.ref (qx_ad X this)), some (.int p1), some (.int p2)] [] (fun r σ1 => r = r0 ∧ σ1 = σ0) := by
  unfold jf_Flow_ownLines
  refine qb_iload_n hX 0 rfl rfl ?_
  refine qb_iflt hX 1 15 rfl (by decide) ?_ ?_
  ·
    refine qb_iconst hX 8 0 rfl (by decide) ?_
    exact qb_iret hX 9 rfl hR (fun _ h => h)
  ·
    refine qb_iload_n hX 2 rfl rfl ?_
    refine qb_iload_n hX 3 rfl rfl ?_
    refine qb_icge hX 4 15 rfl (by decide) ?_ ?_
    ·
      refine qb_iconst hX 8 0 rfl (by decide) ?_
      exact qb_iret hX 9 rfl hR (fun _ h => h)
    ·
      refine qb_iload_n hX 5 rfl rfl ?_
      refine qb_bipush hX 6 91 rfl (by decide) ?_
      refine qb_iclt hX 7 17 rfl (by decide) ?_ ?_
      ·
        refine qb_aload_n hX 10 rfl rfl ?_
        refine qb_getR hX 11 rfl fl_Flow_43 hthis rfl ?_
        refine qb_iload_n hX 12 rfl rfl ?_
        refine qb_iald hX 13 rfl (kf_Flow_13 hthis) (fun x1 => ?_)
        refine qb_aload_n hX 14 rfl rfl ?_
        refine qb_getR hX 15 rfl fl_Flow_43 hthis rfl ?_
        refine qb_iload_n hX 16 rfl rfl ?_
        refine qb_iald hX 17 rfl (kf_Flow_13 hthis) (fun x2 => ?_)
        refine qb_isub hX 18 rfl ?_
        exact qb_iret hX 19 rfl hR (fun _ h => h)
      ·
        refine qb_iconst hX 8 0 rfl (by decide) ?_
        exact qb_iret hX 9 rfl hR (fun _ h => h)
theorem jm_Flow_ownLines {l : Launch} {G : qm_G} (hG : qm_GI G) (this : Nat) (p1 : Int32) (p2 : Int32) (hthis : (qm_kd this).1 = 11) : qm_MI l G jy_Flow_ownLines prog_3_method_12_code 3 (some .int) 0 0 [.ref (G.1 this), .int p1, .int p2] (jf_Flow_ownLines this p1 p2) :=
  qm_metI (by decide +kernel) jd_Flow_ownLines (fun v hv => by simp only [List.mem_cons, List.not_mem_nil, or_false] at hv; rcases hv with rfl | rfl | rfl <;> rfl) (by exact Nat.le_of_ble_eq_true rfl) hG rfl (fun X hl hg hX r0 σ0 hR => by subst hl; subst hg; exact jb_Flow_ownLines hX hR this p1 p2 hthis)
def jl_Fitter_linesIn : List qm_I := [(0, .iload_n 1, 1, 1), (1, .aload_n 0, 1, 2), (2, .getfield 41, 3, 5), (5, .if_icmp .lt 10, 3, 8), (8, .aload_n 0, 1, 9), (9, .getfield 45, 3, 12), (12, .ifCond .gt 7, 3, 15), (15, .iconst 0, 1, 16), (16, .goto 14, 3, 19), (19, .iload_n 1, 1, 20), (20, .aload_n 0, 1, 21), (21, .getfield 41, 3, 24), (24, .isub, 1, 25), (25, .aload_n 0, 1, 26), (26, .getfield 45, 3, 29), (29, .idiv, 1, 30), (30, .ireturn, 1, 31)]
theorem jd_Fitter_linesIn : qm_D prog_2_method_4_code jl_Fitter_linesIn := qm_D_of (by decide +kernel)
noncomputable def jf_Fitter_linesIn (this : Nat) (p1 : Int32) : qm_M Int32 :=
  mB (mGt this 2) fun x1 =>
  if p1 < x1 then
    mP 0
  else
    mB (mGt this 3) fun x2 =>
    if 0 < x2 then
      mB (mGt this 2) fun x3 =>
      mB (mGt this 3) fun x4 =>
      mB (mDv (p1 - x3) x4) fun x5 =>
      mP x5
    else
      mP 0
set_option maxRecDepth 20000 in
set_option maxHeartbeats 4000000 in
theorem jb_Fitter_linesIn {X : qm_X} (hX : qm_ok X qr_Fitter prog_2_method_4_code 2 0 0 jl_Fitter_linesIn) {r0 : Int32} {σ0 : qm_Mem} (hR : qm_RI X r0 σ0 .int) (this : Nat) (p1 : Int32) (hthis : (qm_kd this).1 = 10) : qm_B X (jf_Fitter_linesIn this p1) 0 [some (.ref (qx_ad X this)), some (.int p1)] [] (fun r σ1 => r = r0 ∧ σ1 = σ0) := by
  unfold jf_Fitter_linesIn
  refine qb_iload_n hX 0 rfl rfl ?_
  refine qb_aload_n hX 1 rfl rfl ?_
  refine qb_get hX 2 rfl fl_Fitter_41 hthis rfl (fun x1 => ?_)
  refine qb_iclt hX 3 15 rfl (by decide) ?_ ?_
  ·
    refine qb_iconst hX 7 0 rfl (by decide) ?_
    refine qb_goto hX 8 (tgt := 30) rfl (by decide) ?_
    exact qb_iret hX 16 rfl hR (fun _ h => h)
  ·
    refine qb_aload_n hX 4 rfl rfl ?_
    refine qb_get hX 5 rfl fl_Fitter_45 hthis rfl (fun x2 => ?_)
    refine qb_ifgt hX 6 19 rfl (by decide) ?_ ?_
    ·
      refine qb_iload_n hX 9 rfl rfl ?_
      refine qb_aload_n hX 10 rfl rfl ?_
      refine qb_get hX 11 rfl fl_Fitter_41 hthis rfl (fun x3 => ?_)
      refine qb_isub hX 12 rfl ?_
      refine qb_aload_n hX 13 rfl rfl ?_
      refine qb_get hX 14 rfl fl_Fitter_45 hthis rfl (fun x4 => ?_)
      refine qb_idiv hX 15 rfl (fun x5 => ?_)
      exact qb_iret hX 16 rfl hR (fun _ h => h)
    ·
      refine qb_iconst hX 7 0 rfl (by decide) ?_
      refine qb_goto hX 8 (tgt := 30) rfl (by decide) ?_
      exact qb_iret hX 16 rfl hR (fun _ h => h)
theorem jm_Fitter_linesIn {l : Launch} {G : qm_G} (hG : qm_GI G) (this : Nat) (p1 : Int32) (hthis : (qm_kd this).1 = 10) : qm_MI l G jy_Fitter_linesIn prog_2_method_4_code 2 (some .int) 0 0 [.ref (G.1 this), .int p1] (jf_Fitter_linesIn this p1) :=
  qm_metI (by decide +kernel) jd_Fitter_linesIn (fun v hv => by simp only [List.mem_cons, List.not_mem_nil, or_false] at hv; rcases hv with rfl | rfl <;> rfl) (by exact Nat.le_of_ble_eq_true rfl) hG rfl (fun X hl hg hX r0 σ0 hR => by subst hl; subst hg; exact jb_Fitter_linesIn hX hR this p1 hthis)
def jl_Flow_lastLinesAhead : List qm_I := [(0, .iload_n 1, 1, 1), (1, .ifCond .lt 18, 3, 4), (4, .iload_n 1, 1, 5), (5, .bipush 91, 2, 7), (7, .if_icmp .ge 12, 3, 10), (10, .aload_n 0, 1, 11), (11, .getfield 46, 3, 14), (14, .iload_n 1, 1, 15), (15, .iaload, 1, 16), (16, .goto 4, 3, 19), (19, .iconst 0, 1, 20), (20, .ireturn, 1, 21)]
theorem jd_Flow_lastLinesAhead : qm_D prog_3_method_13_code jl_Flow_lastLinesAhead := qm_D_of (by decide +kernel)
noncomputable def jf_Flow_lastLinesAhead (this : Nat) (p1 : Int32) : qm_M Int32 :=
  if p1 < 0 then
    mP 0
  else
    if 91 ≤ p1 then
      mP 0
    else
      mB (mLd (qm_rf this 14) p1) fun x1 =>
      mP x1
set_option maxRecDepth 20000 in
set_option maxHeartbeats 4000000 in
theorem jb_Flow_lastLinesAhead {X : qm_X} (hX : qm_ok X qr_Flow prog_3_method_13_code 2 0 0 jl_Flow_lastLinesAhead) {r0 : Int32} {σ0 : qm_Mem} (hR : qm_RI X r0 σ0 .int) (this : Nat) (p1 : Int32) (hthis : (qm_kd this).1 = 11) : qm_B X (jf_Flow_lastLinesAhead this p1) 0 [some (.ref (qx_ad X this)), some (.int p1)] [] (fun r σ1 => r = r0 ∧ σ1 = σ0) := by
  unfold jf_Flow_lastLinesAhead
  refine qb_iload_n hX 0 rfl rfl ?_
  refine qb_iflt hX 1 19 rfl (by decide) ?_ ?_
  ·
    refine qb_iconst hX 10 0 rfl (by decide) ?_
    exact qb_iret hX 11 rfl hR (fun _ h => h)
  ·
    refine qb_iload_n hX 2 rfl rfl ?_
    refine qb_bipush hX 3 91 rfl (by decide) ?_
    refine qb_icge hX 4 19 rfl (by decide) ?_ ?_
    ·
      refine qb_iconst hX 10 0 rfl (by decide) ?_
      exact qb_iret hX 11 rfl hR (fun _ h => h)
    ·
      refine qb_aload_n hX 5 rfl rfl ?_
      refine qb_getR hX 6 rfl fl_Flow_46 hthis rfl ?_
      refine qb_iload_n hX 7 rfl rfl ?_
      refine qb_iald hX 8 rfl (kf_Flow_14 hthis) (fun x1 => ?_)
      refine qb_goto hX 9 (tgt := 20) rfl (by decide) ?_
      exact qb_iret hX 11 rfl hR (fun _ h => h)
theorem jm_Flow_lastLinesAhead {l : Launch} {G : qm_G} (hG : qm_GI G) (this : Nat) (p1 : Int32) (hthis : (qm_kd this).1 = 11) : qm_MI l G jy_Flow_lastLinesAhead prog_3_method_13_code 2 (some .int) 0 0 [.ref (G.1 this), .int p1] (jf_Flow_lastLinesAhead this p1) :=
  qm_metI (by decide +kernel) jd_Flow_lastLinesAhead (fun v hv => by simp only [List.mem_cons, List.not_mem_nil, or_false] at hv; rcases hv with rfl | rfl <;> rfl) (by exact Nat.le_of_ble_eq_true rfl) hG rfl (fun X hl hg hX r0 σ0 hR => by subst hl; subst hg; exact jb_Flow_lastLinesAhead hX hR this p1 hthis)
def jl_Fitter_leftOver : List qm_I := [(0, .iload 4, 2, 2), (2, .aload_n 0, 1, 3), (3, .getfield 15, 3, 6), (6, .iload_n 1, 1, 7), (7, .iload_n 2, 1, 8), (8, .invokevirtual 51, 3, 11), (11, .isub, 1, 12), (12, .istore 5, 2, 14), (14, .aload_n 0, 1, 15), (15, .getfield 15, 3, 18), (18, .iload_n 1, 1, 19), (19, .iload_n 2, 1, 20), (20, .invokevirtual 57, 3, 23), (23, .istore 6, 2, 25), (25, .iload 6, 2, 27), (27, .iload_n 3, 1, 28), (28, .iadd, 1, 29), (29, .ifCond .ne 14, 3, 32), (32, .iload 5, 2, 34), (34, .ifCond .lt 7, 3, 37), (37, .iconst 0, 1, 38), (38, .goto 4, 3, 41), (41, .iconst (-1), 1, 42), (42, .ireturn, 1, 43), (43, .aload_n 0, 1, 44), (44, .iload 5, 2, 46), (46, .invokevirtual 60, 3, 49), (49, .istore 7, 2, 51), (51, .iload 6, 2, 53), (53, .ifCond .le 21, 3, 56), (56, .iload_n 3, 1, 57), (57, .iload 6, 2, 59), (59, .iadd, 1, 60), (60, .aload_n 0, 1, 61), (61, .getfield 15, 3, 64), (64, .iload_n 2, 1, 65), (65, .invokevirtual 63, 3, 68), (68, .isub, 1, 69), (69, .iconst 1, 1, 70), (70, .iadd, 1, 71), (71, .goto 4, 3, 74), (74, .iconst 1, 1, 75), (75, .istore 8, 2, 77), (77, .iload 8, 2, 79), (79, .iload 7, 2, 81), (81, .if_icmp .le 7, 3, 84), (84, .iconst (-1), 1, 85), (85, .goto 14, 3, 88), (88, .iconst 0, 1, 89), (89, .iload 6, 2, 91), (91, .iload_n 3, 1, 92), (92, .iadd, 1, 93), (93, .iload 7, 2, 95), (95, .isub, 1, 96), (96, .invokestatic 66, 3, 99), (99, .ireturn, 1, 100)]
theorem jd_Fitter_leftOver : qm_D prog_2_method_3_code jl_Fitter_leftOver := qm_D_of (by decide +kernel)
noncomputable def jf_Fitter_leftOver (this : Nat) (p1 : Int32) (p2 : Int32) (p3 : Int32) (p4 : Int32) : qm_M Int32 :=
  mB (jf_Flow_text (qm_rf this 1) p1 p2) fun x1 =>
  mB (mP (p4 - x1)) fun x2 =>
  mB (jf_Flow_ownLines (qm_rf this 1) p1 p2) fun x3 =>
  if ¬ (x3 + p3) = 0 then
    mB (jf_Fitter_linesIn this x2) fun x4 =>
    mB (α := Int32) (
      if x3 ≤ 0 then
        mP 1
      else
        mB (jf_Flow_lastLinesAhead (qm_rf this 1) p2) fun x6 =>
        mP (((p3 + x3) - x6) + 1)) fun s5 =>
    if s5 ≤ x4 then
      mB (jf_Math_max 0 ((x3 + p3) - x4)) fun x7 =>
      mP x7
    else
      mP (-1)
  else
    if x2 < 0 then
      mP (-1)
    else
      mP 0
set_option maxRecDepth 20000 in
set_option maxHeartbeats 4000000 in
theorem jb_Fitter_leftOver {X : qm_X} (hX : qm_ok X qr_Fitter prog_2_method_3_code 9 1 22 jl_Fitter_leftOver) {r0 : Int32} {σ0 : qm_Mem} (hR : qm_RI X r0 σ0 .int) (this : Nat) (p1 : Int32) (p2 : Int32) (p3 : Int32) (p4 : Int32) (hthis : (qm_kd this).1 = 10) : qm_B X (jf_Fitter_leftOver this p1 p2 p3 p4) 0 [some (.ref (qx_ad X this)), some (.int p1), some (.int p2), some (.int p3), some (.int p4), none, none, none, none] [] (fun r σ1 => r = r0 ∧ σ1 = σ0) := by
  unfold jf_Fitter_leftOver
  refine qb_iload hX 0 rfl rfl ?_
  refine qb_aload_n hX 1 rfl rfl ?_
  refine qb_getR hX 2 rfl fl_Fitter_15 hthis rfl ?_
  refine qb_iload_n hX 3 rfl rfl ?_
  refine qb_iload_n hX 4 rfl rfl ?_
  refine qb_callI hX 5 rfl cv_Fitter_51 (jm_Flow_text (qk_GI hX) (qm_rf this 1) p1 p2 (kf_Fitter_1 hthis) ) (ci := 1) (kf_Fitter_1 hthis) ⟨rfl, rfl, rfl, by decide, by decide⟩ rfl (by exact Nat.le_of_ble_eq_true rfl) (fun x1 => ?_)
  refine qb_isub hX 6 rfl ?_
  refine qb_istoreL hX 7 (fun x2 => [some (.ref (qx_ad X this)), some (.int p1), some (.int p2), some (.int p3), some (.int p4), some (.int x2), none, none, none]) rfl (by decide) (fun _ => rfl) (fun x2 => ?_)
  refine qb_aload_n hX 8 rfl rfl ?_
  refine qb_getR hX 9 rfl fl_Fitter_15 hthis rfl ?_
  refine qb_iload_n hX 10 rfl rfl ?_
  refine qb_iload_n hX 11 rfl rfl ?_
  refine qb_callI hX 12 rfl cv_Fitter_57 (jm_Flow_ownLines (qk_GI hX) (qm_rf this 1) p1 p2 (kf_Fitter_1 hthis) ) (ci := 1) (kf_Fitter_1 hthis) ⟨rfl, rfl, rfl, by decide, by decide⟩ rfl (by exact Nat.le_of_ble_eq_true rfl) (fun x3 => ?_)
  refine qb_istore hX 13 ([some (.ref (qx_ad X this)), some (.int p1), some (.int p2), some (.int p3), some (.int p4), some (.int x2), some (.int x3), none, none]) rfl (by decide) rfl ?_
  refine qb_iload hX 14 rfl rfl ?_
  refine qb_iload_n hX 15 rfl rfl ?_
  refine qb_iadd hX 16 rfl ?_
  refine qb_ifne hX 17 43 rfl (by decide) ?_ ?_
  ·
    refine qb_aload_n hX 24 rfl rfl ?_
    refine qb_iload hX 25 rfl rfl ?_
    refine qb_callI hX 26 rfl cv_Fitter_60 (jm_Fitter_linesIn (qk_GI hX) this x2 hthis ) (ci := 0) hthis ⟨rfl, rfl, rfl, by decide, by decide⟩ rfl (by exact Nat.le_of_ble_eq_true rfl) (fun x4 => ?_)
    refine qb_istore hX 27 ([some (.ref (qx_ad X this)), some (.int p1), some (.int p2), some (.int p3), some (.int p4), some (.int x2), some (.int x3), some (.int x4), none]) rfl (by decide) rfl ?_
    refine qb_iload hX 28 rfl rfl ?_
    refine qb_join 75 (fun s5 => [none, none, none, some (.int p3), none, none, some (.int x3), some (.int x4), none]) (fun s5 => [.int s5]) ?_ ?_
    ·
      refine qb_ifle hX 29 74 rfl (by decide) ?_ ?_
      ·
        refine qb_iconst hX 41 1 rfl (by decide) ?_
        exact qb_exit (fun σ h => qj_wk (ρ' := [none, none, none, some (.int p3), none, none, some (.int x3), some (.int x4), none]) (qw_n (qw_n (qw_n (qw_s (qw_n (qw_n (qw_s (qw_s (qw_n (qw_0)))))))))) h)
      ·
        refine qb_iload_n hX 30 rfl rfl ?_
        refine qb_iload hX 31 rfl rfl ?_
        refine qb_iadd hX 32 rfl ?_
        refine qb_aload_n hX 33 rfl rfl ?_
        refine qb_getR hX 34 rfl fl_Fitter_15 hthis rfl ?_
        refine qb_iload_n hX 35 rfl rfl ?_
        refine qb_callI hX 36 rfl cv_Fitter_63 (jm_Flow_lastLinesAhead (qk_GI hX) (qm_rf this 1) p2 (kf_Fitter_1 hthis) ) (ci := 1) (kf_Fitter_1 hthis) ⟨rfl, rfl, rfl, by decide, by decide⟩ rfl (by exact Nat.le_of_ble_eq_true rfl) (fun x6 => ?_)
        refine qb_isub hX 37 rfl ?_
        refine qb_iconst hX 38 1 rfl (by decide) ?_
        refine qb_iadd hX 39 rfl ?_
        exact qb_exit (fun σ h => qj_goto hX 40 rfl (by decide) (qj_wk (ρ' := [none, none, none, some (.int p3), none, none, some (.int x3), some (.int x4), none]) (qw_n (qw_n (qw_n (qw_s (qw_n (qw_n (qw_s (qw_s (qw_n (qw_0)))))))))) h))
    · intro s5
      refine qb_istore hX 42 ([none, none, none, some (.int p3), none, none, some (.int x3), some (.int x4), some (.int s5)]) rfl (by decide) rfl ?_
      refine qb_iload hX 43 rfl rfl ?_
      refine qb_iload hX 44 rfl rfl ?_
      refine qb_icle hX 45 88 rfl (by decide) ?_ ?_
      ·
        refine qb_iconst hX 48 0 rfl (by decide) ?_
        refine qb_iload hX 49 rfl rfl ?_
        refine qb_iload_n hX 50 rfl rfl ?_
        refine qb_iadd hX 51 rfl ?_
        refine qb_iload hX 52 rfl rfl ?_
        refine qb_isub hX 53 rfl ?_
        refine qb_mmax hX 54 rfl cv_Fitter_66 (by decide) (by exact Nat.le_of_ble_eq_true rfl) (fun x7 => ?_)
        exact qb_iret hX 55 rfl hR (fun _ h => h)
      ·
        refine qb_iconst hX 46 (-1) rfl (by decide) ?_
        refine qb_goto hX 47 (tgt := 99) rfl (by decide) ?_
        exact qb_iret hX 55 rfl hR (fun _ h => h)
  ·
    refine qb_iload hX 18 rfl rfl ?_
    refine qb_iflt hX 19 41 rfl (by decide) ?_ ?_
    ·
      refine qb_iconst hX 22 (-1) rfl (by decide) ?_
      exact qb_iret hX 23 rfl hR (fun _ h => h)
    ·
      refine qb_iconst hX 20 0 rfl (by decide) ?_
      refine qb_goto hX 21 (tgt := 42) rfl (by decide) ?_
      exact qb_iret hX 23 rfl hR (fun _ h => h)
theorem jm_Fitter_leftOver {l : Launch} {G : qm_G} (hG : qm_GI G) (this : Nat) (p1 : Int32) (p2 : Int32) (p3 : Int32) (p4 : Int32) (hthis : (qm_kd this).1 = 10) : qm_MI l G jy_Fitter_leftOver prog_2_method_3_code 9 (some .int) 1 22 [.ref (G.1 this), .int p1, .int p2, .int p3, .int p4] (jf_Fitter_leftOver this p1 p2 p3 p4) :=
  qm_metI (by decide +kernel) jd_Fitter_leftOver (fun v hv => by simp only [List.mem_cons, List.not_mem_nil, or_false] at hv; rcases hv with rfl | rfl | rfl | rfl | rfl <;> rfl) (by exact Nat.le_of_ble_eq_true rfl) hG rfl (fun X hl hg hX r0 σ0 hR => by subst hl; subst hg; exact jb_Fitter_leftOver hX hR this p1 p2 p3 p4 hthis)
def jl_Top_at : List qm_I := [(0, .iload_n 1, 1, 1), (1, .ifCond .lt 15, 3, 4), (4, .iload_n 1, 1, 5), (5, .aload_n 0, 1, 6), (6, .arraylength, 1, 7), (7, .if_icmp .ge 9, 3, 10), (10, .aload_n 0, 1, 11), (11, .iload_n 1, 1, 12), (12, .iaload, 1, 13), (13, .goto 4, 3, 16), (16, .iconst 0, 1, 17), (17, .ireturn, 1, 18)]
theorem jd_Top_at : qm_D prog_1_method_36_code jl_Top_at := qm_D_of (by decide +kernel)
noncomputable def jf_Top_at (p1 : Nat) (p2 : Int32) : qm_M Int32 :=
  if p2 < 0 then
    mP 0
  else
    if (Int32.ofNat (qm_kd p1).2) ≤ p2 then
      mP 0
    else
      mB (mLd p1 p2) fun x1 =>
      mP x1
set_option maxRecDepth 20000 in
set_option maxHeartbeats 4000000 in
theorem jb_Top_at {X : qm_X} (hX : qm_ok X qr_Top prog_1_method_36_code 2 0 0 jl_Top_at) {r0 : Int32} {σ0 : qm_Mem} (hR : qm_RI X r0 σ0 .int) (p1 : Nat) (p2 : Int32) (hp1 : (qm_kd p1).1 = 1) : qm_B X (jf_Top_at p1 p2) 0 [some (.ref (qx_ad X p1)), some (.int p2)] [] (fun r σ1 => r = r0 ∧ σ1 = σ0) := by
  unfold jf_Top_at
  refine qb_iload_n hX 0 rfl rfl ?_
  refine qb_iflt hX 1 16 rfl (by decide) ?_ ?_
  ·
    refine qb_iconst hX 10 0 rfl (by decide) ?_
    exact qb_iret hX 11 rfl hR (fun _ h => h)
  ·
    refine qb_iload_n hX 2 rfl rfl ?_
    refine qb_aload_n hX 3 rfl rfl ?_
    refine qb_alen hX 4 (Int32.ofNat (qm_kd p1).2) rfl (Or.inl hp1) rfl ?_
    refine qb_icge hX 5 16 rfl (by decide) ?_ ?_
    ·
      refine qb_iconst hX 10 0 rfl (by decide) ?_
      exact qb_iret hX 11 rfl hR (fun _ h => h)
    ·
      refine qb_aload_n hX 6 rfl rfl ?_
      refine qb_iload_n hX 7 rfl rfl ?_
      refine qb_iald hX 8 rfl hp1 (fun x1 => ?_)
      refine qb_goto hX 9 (tgt := 17) rfl (by decide) ?_
      exact qb_iret hX 11 rfl hR (fun _ h => h)
theorem jm_Top_at {l : Launch} {G : qm_G} (hG : qm_GI G) (p1 : Nat) (p2 : Int32) (hp1 : (qm_kd p1).1 = 1) : qm_MI l G jy_Top_at prog_1_method_36_code 2 (some .int) 0 0 [.ref (G.1 p1), .int p2] (jf_Top_at p1 p2) :=
  qm_metI (by decide +kernel) jd_Top_at (fun v hv => by simp only [List.mem_cons, List.not_mem_nil, or_false] at hv; rcases hv with rfl | rfl <;> rfl) (by exact Nat.le_of_ble_eq_true rfl) hG rfl (fun X hl hg hX r0 σ0 hR => by subst hl; subst hg; exact jb_Top_at hX hR p1 p2 hp1)
def jl_Fitter_bearsAt : List qm_I := [(0, .iload_n 1, 1, 1), (1, .ifCond .lt 21, 3, 4), (4, .iload_n 1, 1, 5), (5, .iconst 5, 1, 6), (6, .if_icmp .gt 16, 3, 9), (9, .aload_n 0, 1, 10), (10, .getfield 21, 3, 13), (13, .iload_n 1, 1, 14), (14, .aaload, 1, 15), (15, .iload_n 2, 1, 16), (16, .invokestatic 78, 3, 19), (19, .goto 4, 3, 22), (22, .iconst (-1), 1, 23), (23, .ireturn, 1, 24)]
theorem jd_Fitter_bearsAt : qm_D prog_2_method_6_code jl_Fitter_bearsAt := qm_D_of (by decide +kernel)
noncomputable def jf_Fitter_bearsAt (this : Nat) (p1 : Int32) (p2 : Int32) : qm_M Int32 :=
  if p1 < 0 then
    mP (-1)
  else
    if 5 < p1 then
      mP (-1)
    else
      mB (mLr (qm_rf this 4) p1) fun r1 =>
      mB (jf_Top_at r1 p2) fun x2 =>
      mP x2
set_option maxRecDepth 20000 in
set_option maxHeartbeats 4000000 in
theorem jb_Fitter_bearsAt {X : qm_X} (hX : qm_ok X qr_Fitter prog_2_method_6_code 3 1 21 jl_Fitter_bearsAt) {r0 : Int32} {σ0 : qm_Mem} (hR : qm_RI X r0 σ0 .int) (this : Nat) (p1 : Int32) (p2 : Int32) (hthis : (qm_kd this).1 = 10) : qm_B X (jf_Fitter_bearsAt this p1 p2) 0 [some (.ref (qx_ad X this)), some (.int p1), some (.int p2)] [] (fun r σ1 => r = r0 ∧ σ1 = σ0) := by
  unfold jf_Fitter_bearsAt
  refine qb_iload_n hX 0 rfl rfl ?_
  refine qb_iflt hX 1 22 rfl (by decide) ?_ ?_
  ·
    refine qb_iconst hX 12 (-1) rfl (by decide) ?_
    exact qb_iret hX 13 rfl hR (fun _ h => h)
  ·
    refine qb_iload_n hX 2 rfl rfl ?_
    refine qb_iconst hX 3 5 rfl (by decide) ?_
    refine qb_icgt hX 4 22 rfl (by decide) ?_ ?_
    ·
      refine qb_iconst hX 12 (-1) rfl (by decide) ?_
      exact qb_iret hX 13 rfl hR (fun _ h => h)
    ·
      refine qb_aload_n hX 5 rfl rfl ?_
      refine qb_getR hX 6 rfl fl_Fitter_21 hthis rfl ?_
      refine qb_iload_n hX 7 rfl rfl ?_
      refine qb_aald hX 8 rfl (Or.inl (kf_Fitter_4 hthis)) (ka_4 (kf_Fitter_4 hthis)) (fun r1 hr1 => ?_)
      refine qb_iload_n hX 9 rfl rfl ?_
      refine qb_calNI hX 10 rfl cv_Fitter_78 (jm_Top_at (qk_GI hX) r1 p2 hr1) ⟨rfl, by decide, by decide⟩ rfl (by exact Nat.le_of_ble_eq_true rfl) (fun x2 => ?_)
      refine qb_goto hX 11 (tgt := 23) rfl (by decide) ?_
      exact qb_iret hX 13 rfl hR (fun _ h => h)
theorem jm_Fitter_bearsAt {l : Launch} {G : qm_G} (hG : qm_GI G) (this : Nat) (p1 : Int32) (p2 : Int32) (hthis : (qm_kd this).1 = 10) : qm_MI l G jy_Fitter_bearsAt prog_2_method_6_code 3 (some .int) 1 21 [.ref (G.1 this), .int p1, .int p2] (jf_Fitter_bearsAt this p1 p2) :=
  qm_metI (by decide +kernel) jd_Fitter_bearsAt (fun v hv => by simp only [List.mem_cons, List.not_mem_nil, or_false] at hv; rcases hv with rfl | rfl | rfl <;> rfl) (by exact Nat.le_of_ble_eq_true rfl) hG rfl (fun X hl hg hX r0 σ0 hR => by subst hl; subst hg; exact jb_Fitter_bearsAt hX hR this p1 p2 hthis)
def jl_Fitter_slotOf : List qm_I := [(0, .iload_n 2, 1, 1), (1, .ifCond .lt 22, 3, 4), (4, .iload_n 2, 1, 5), (5, .aload_n 0, 1, 6), (6, .getfield 15, 3, 9), (9, .getfield 93, 3, 12), (12, .iload_n 1, 1, 13), (13, .invokestatic 78, 3, 16), (16, .if_icmp .ge 7, 3, 19), (19, .iconst 1, 1, 20), (20, .goto 4, 3, 23), (23, .iconst 0, 1, 24), (24, .istore 4, 2, 26), (26, .iload 4, 2, 28), (28, .ifCond .eq 22, 3, 31), (31, .iload_n 3, 1, 32), (32, .ifCond .lt 18, 3, 35), (35, .iload_n 3, 1, 36), (36, .bipush 20, 2, 38), (38, .if_icmp .ge 12, 3, 41), (41, .iload_n 2, 1, 42), (42, .bipush 20, 2, 44), (44, .imul, 1, 45), (45, .iload_n 3, 1, 46), (46, .iadd, 1, 47), (47, .goto 4, 3, 50), (50, .iconst (-1), 1, 51), (51, .ireturn, 1, 52)]
theorem jd_Fitter_slotOf : qm_D prog_2_method_9_code jl_Fitter_slotOf := qm_D_of (by decide +kernel)
noncomputable def jf_Fitter_slotOf (this : Nat) (p1 : Int32) (p2 : Int32) (p3 : Int32) : qm_M Int32 :=
  mB (α := Int32) (
    mB (α := (Unit ⊕ Int32)) (
      if p2 < 0 then
        mP (Sum.inl ())
      else
        mB (jf_Top_at (qm_rf (qm_rf this 1) 17) p1) fun x3 =>
        if x3 ≤ p2 then
          mP (Sum.inl ())
        else
          mP (Sum.inr 1)) (Sum.elim (fun s2 =>
      mP 0) mP)) fun s1 =>
  if s1 = 0 then
    mP (-1)
  else
    if p3 < 0 then
      mP (-1)
    else
      if 20 ≤ p3 then
        mP (-1)
      else
        mP ((p2 * 20) + p3)
set_option maxRecDepth 20000 in
set_option maxHeartbeats 4000000 in
theorem jb_Fitter_slotOf {X : qm_X} (hX : qm_ok X qr_Fitter prog_2_method_9_code 5 1 21 jl_Fitter_slotOf) {r0 : Int32} {σ0 : qm_Mem} (hR : qm_RI X r0 σ0 .int) (this : Nat) (p1 : Int32) (p2 : Int32) (p3 : Int32) (hthis : (qm_kd this).1 = 10) : qm_B X (jf_Fitter_slotOf this p1 p2 p3) 0 [some (.ref (qx_ad X this)), some (.int p1), some (.int p2), some (.int p3), none] [] (fun r σ1 => r = r0 ∧ σ1 = σ0) := by
  unfold jf_Fitter_slotOf
  refine qb_iload_n hX 0 rfl rfl ?_
  refine qb_join 24 (fun s1 => [none, none, some (.int p2), some (.int p3), none]) (fun s1 => [.int s1]) ?_ ?_
  ·
    refine qb_join2 23 (fun s2 => [none, none, some (.int p2), some (.int p3), none]) (fun s2 => []) ?_ ?_
    ·
      refine qb_iflt hX 1 23 rfl (by decide) ?_ ?_
      ·
        exact qb_exit (fun σ h => qj_wk (ρ' := [none, none, some (.int p2), some (.int p3), none]) (qw_n (qw_n (qw_s (qw_s (qw_n (qw_0)))))) h)
      ·
        refine qb_iload_n hX 2 rfl rfl ?_
        refine qb_aload_n hX 3 rfl rfl ?_
        refine qb_getR hX 4 rfl fl_Fitter_15 hthis rfl ?_
        refine qb_getR hX 5 rfl fl_Fitter_93 (kf_Fitter_1 hthis) rfl ?_
        refine qb_iload_n hX 6 rfl rfl ?_
        refine qb_calNI hX 7 rfl cv_Fitter_78 (jm_Top_at (qk_GI hX) (qm_rf (qm_rf this 1) 17) p1 (kf_Flow_17 (kf_Fitter_1 hthis))) ⟨rfl, by decide, by decide⟩ rfl (by exact Nat.le_of_ble_eq_true rfl) (fun x3 => ?_)
        refine qb_icge hX 8 23 rfl (by decide) ?_ ?_
        ·
          exact qb_exit (fun σ h => qj_wk (ρ' := [none, none, some (.int p2), some (.int p3), none]) (qw_n (qw_n (qw_s (qw_s (qw_n (qw_0)))))) h)
        ·
          refine qb_iconst hX 9 1 rfl (by decide) ?_
          exact qb_exit (fun σ h => qj_goto hX 10 rfl (by decide) (qj_wk (ρ' := [none, none, some (.int p2), some (.int p3), none]) (qw_n (qw_n (qw_s (qw_s (qw_n (qw_0)))))) h))
    · intro s2
      refine qb_iconst hX 11 0 rfl (by decide) ?_
      exact qb_exit (fun σ h => qj_wk (ρ' := [none, none, some (.int p2), some (.int p3), none]) (qw_n (qw_n (qw_s (qw_s (qw_n (qw_0)))))) h)
  · intro s1
    refine qb_istore hX 12 ([none, none, some (.int p2), some (.int p3), some (.int s1)]) rfl (by decide) rfl ?_
    refine qb_iload hX 13 rfl rfl ?_
    refine qb_ifeq hX 14 50 rfl (by decide) ?_ ?_
    ·
      refine qb_iconst hX 26 (-1) rfl (by decide) ?_
      exact qb_iret hX 27 rfl hR (fun _ h => h)
    ·
      refine qb_iload_n hX 15 rfl rfl ?_
      refine qb_iflt hX 16 50 rfl (by decide) ?_ ?_
      ·
        refine qb_iconst hX 26 (-1) rfl (by decide) ?_
        exact qb_iret hX 27 rfl hR (fun _ h => h)
      ·
        refine qb_iload_n hX 17 rfl rfl ?_
        refine qb_bipush hX 18 20 rfl (by decide) ?_
        refine qb_icge hX 19 50 rfl (by decide) ?_ ?_
        ·
          refine qb_iconst hX 26 (-1) rfl (by decide) ?_
          exact qb_iret hX 27 rfl hR (fun _ h => h)
        ·
          refine qb_iload_n hX 20 rfl rfl ?_
          refine qb_bipush hX 21 20 rfl (by decide) ?_
          refine qb_imul hX 22 rfl ?_
          refine qb_iload_n hX 23 rfl rfl ?_
          refine qb_iadd hX 24 rfl ?_
          refine qb_goto hX 25 (tgt := 51) rfl (by decide) ?_
          exact qb_iret hX 27 rfl hR (fun _ h => h)
theorem jm_Fitter_slotOf {l : Launch} {G : qm_G} (hG : qm_GI G) (this : Nat) (p1 : Int32) (p2 : Int32) (p3 : Int32) (hthis : (qm_kd this).1 = 10) : qm_MI l G jy_Fitter_slotOf prog_2_method_9_code 5 (some .int) 1 21 [.ref (G.1 this), .int p1, .int p2, .int p3] (jf_Fitter_slotOf this p1 p2 p3) :=
  qm_metI (by decide +kernel) jd_Fitter_slotOf (fun v hv => by simp only [List.mem_cons, List.not_mem_nil, or_false] at hv; rcases hv with rfl | rfl | rfl | rfl <;> rfl) (by exact Nat.le_of_ble_eq_true rfl) hG rfl (fun X hl hg hX r0 σ0 hR => by subst hl; subst hg; exact jb_Fitter_slotOf hX hR this p1 p2 p3 hthis)
def jl_Fitter_bearsFrom : List qm_I := [(0, .iconst (-1), 1, 1), (1, .istore 4, 2, 3), (3, .iload_n 1, 1, 4), (4, .ifCond .lt 20, 3, 7), (7, .iload_n 1, 1, 8), (8, .iload_n 2, 1, 9), (9, .if_icmp .gt 15, 3, 12), (12, .iload_n 2, 1, 13), (13, .bipush 91, 2, 15), (15, .if_icmp .ge 9, 3, 18), (18, .iload_n 2, 1, 19), (19, .aload_n 3, 1, 20), (20, .arraylength, 1, 21), (21, .if_icmp .lt 6, 3, 24), (24, .iload 4, 2, 26), (26, .ireturn, 1, 27), (27, .aload_n 0, 1, 28), (28, .getfield 15, 3, 31), (31, .getfield 113, 3, 34), (34, .iload_n 1, 1, 35), (35, .iaload, 1, 36), (36, .aload_n 0, 1, 37), (37, .getfield 15, 3, 40), (40, .getfield 116, 3, 43), (43, .iload_n 1, 1, 44), (44, .iaload, 1, 45), (45, .iadd, 1, 46), (46, .aload_n 0, 1, 47), (47, .getfield 15, 3, 50), (50, .getfield 119, 3, 53), (53, .iload_n 1, 1, 54), (54, .iaload, 1, 55), (55, .isub, 1, 56), (56, .istore 5, 2, 58), (58, .iload_n 1, 1, 59), (59, .istore 6, 2, 61), (61, .iload 6, 2, 63), (63, .iload_n 2, 1, 64), (64, .if_icmp .gt 183, 3, 67), (67, .aload_n 0, 1, 68), (68, .getfield 99, 3, 71), (71, .iload 6, 2, 73), (73, .iload_n 1, 1, 74), (74, .if_icmp .ne 7, 3, 77), (77, .iconst 0, 1, 78), (78, .goto 16, 3, 81), (81, .aload_n 0, 1, 82), (82, .getfield 15, 3, 85), (85, .getfield 113, 3, 88), (88, .iload 6, 2, 90), (90, .iaload, 1, 91), (91, .iload 5, 2, 93), (93, .isub, 1, 94), (94, .isub, 1, 95), (95, .istore 7, 2, 97), (97, .iload 7, 2, 99), (99, .ifCond .ge 6, 3, 102), (102, .goto 145, 3, 105), (105, .aload_n 0, 1, 106), (106, .getfield 15, 3, 109), (109, .getfield 105, 3, 112), (112, .iload 6, 2, 114), (114, .baload, 1, 115), (115, .ifCond .eq 126, 3, 118), (118, .aload_n 3, 1, 119), (119, .iload 6, 2, 121), (121, .iaload, 1, 122), (122, .iconst (-1), 1, 123), (123, .if_icmp .eq 118, 3, 126), (126, .aload_n 0, 1, 127), (127, .getfield 15, 3, 130), (130, .getfield 122, 3, 133), (133, .iload 6, 2, 135), (135, .iaload, 1, 136), (136, .aload_n 0, 1, 137), (137, .getfield 15, 3, 140), (140, .getfield 122, 3, 143), (143, .iload_n 1, 1, 144), (144, .iaload, 1, 145), (145, .isub, 1, 146), (146, .istore 8, 2, 148), (148, .iload 7, 2, 150), (150, .aload_n 0, 1, 151), (151, .getfield 41, 3, 154), (154, .if_icmp .lt 10, 3, 157), (157, .aload_n 0, 1, 158), (158, .getfield 45, 3, 161), (161, .ifCond .gt 7, 3, 164), (164, .iconst 0, 1, 165), (165, .goto 15, 3, 168), (168, .iload 7, 2, 170), (170, .aload_n 0, 1, 171), (171, .getfield 41, 3, 174), (174, .isub, 1, 175), (175, .aload_n 0, 1, 176), (176, .getfield 45, 3, 179), (179, .idiv, 1, 180), (180, .istore 9, 2, 182), (182, .iload 9, 2, 184), (184, .ifCond .ne 7, 3, 187), (187, .iconst 0, 1, 188), (188, .goto 10, 3, 191), (191, .iload 9, 2, 193), (193, .aload_n 3, 1, 194), (194, .iload 6, 2, 196), (196, .iaload, 1, 197), (197, .iadd, 1, 198), (198, .istore 10, 2, 200), (200, .iload 8, 2, 202), (202, .ifCond .le 30, 3, 205), (205, .iload 9, 2, 207), (207, .iload 8, 2, 209), (209, .isub, 1, 210), (210, .aload_n 3, 1, 211), (211, .iload 6, 2, 213), (213, .iaload, 1, 214), (214, .aload_n 0, 1, 215), (215, .getfield 15, 3, 218), (218, .getfield 125, 3, 221), (221, .iload 6, 2, 223), (223, .iaload, 1, 224), (224, .iconst 1, 1, 225), (225, .isub, 1, 226), (226, .invokestatic 96, 3, 229), (229, .iadd, 1, 230), (230, .istore 10, 2, 232), (232, .iload 4, 2, 234), (234, .iload 10, 2, 236), (236, .invokestatic 66, 3, 239), (239, .istore 4, 2, 241), (241, .iinc 6 1, 3, 244), (244, .goto (-183), 3, 247), (247, .iload 4, 2, 249), (249, .ireturn, 1, 250)]
theorem jd_Fitter_bearsFrom : qm_D prog_2_method_11_code jl_Fitter_bearsFrom := qm_D_of (by decide +kernel)
noncomputable def jf_Fitter_bearsFrom (this : Nat) (p1 : Int32) (p2 : Int32) (p3 : Nat) : qm_M Int32 :=
  if p1 < 0 then
    mP (-1)
  else
    if p2 < p1 then
      mP (-1)
    else
      if 91 ≤ p2 then
        mP (-1)
      else
        if p2 < (Int32.ofNat (qm_kd p3).2) then
          mB (mLd (qm_rf (qm_rf this 1) 12) p1) fun x1 =>
          mB (mLd (qm_rf (qm_rf this 1) 8) p1) fun x2 =>
          mB (mLd (qm_rf (qm_rf this 1) 11) p1) fun x3 =>
          mB (mP ((x1 + x2) - x3)) fun x4 =>
          mB (α := Int32) (
            mB (α := (Int32 ⊕ Int32)) (
              mW (S := Int32 × Int32) (α := (Int32 ⊕ Int32)) (fun s7 =>
                if p2 < s7.2 then
                  mP (Sum.inr (Sum.inr s7.1))
                else
                  mB (mGt this 6) fun x8 =>
                  mB (α := Int32) (
                    if ¬ s7.2 = p1 then
                      mB (mLd (qm_rf (qm_rf this 1) 12) s7.2) fun x10 =>
                      mP (x10 - x4)
                    else
                      mP 0) fun s9 =>
                  mB (mP (x8 - s9)) fun x11 =>
                  if 0 ≤ x11 then
                    mB (mLd (qm_rf (qm_rf this 1) 15) s7.2) fun x12 =>
                    mB (α := Int32) (
                      if x12 = 0 then
                        mP s7.1
                      else
                        mB (mLd p3 s7.2) fun x14 =>
                        if x14 = (-1) then
                          mP s7.1
                        else
                          mB (mLd (qm_rf (qm_rf this 1) 13) s7.2) fun x15 =>
                          mB (mLd (qm_rf (qm_rf this 1) 13) p1) fun x16 =>
                          mB (mP (x15 - x16)) fun x17 =>
                          mB (mGt this 2) fun x18 =>
                          mB (α := Int32) (
                            mB (α := (Unit ⊕ Int32)) (
                              if x11 < x18 then
                                mP (Sum.inl ())
                              else
                                mB (mGt this 3) fun x21 =>
                                if 0 < x21 then
                                  mB (mGt this 2) fun x22 =>
                                  mB (mGt this 3) fun x23 =>
                                  mB (mDv (x11 - x22) x23) fun x24 =>
                                  mP (Sum.inr x24)
                                else
                                  mP (Sum.inl ())) (Sum.elim (fun s20 =>
                              mP 0) mP)) fun s19 =>
                          mB (α := Int32) (
                            if ¬ s19 = 0 then
                              mB (mLd p3 s7.2) fun x26 =>
                              mP (s19 + x26)
                            else
                              mP 0) fun s25 =>
                          mB (α := Int32) (
                            if x17 ≤ 0 then
                              mP s25
                            else
                              mB (mLd p3 s7.2) fun x28 =>
                              mB (mLd (qm_rf (qm_rf this 1) 14) s7.2) fun x29 =>
                              mB (jf_Math_min x28 (x29 - 1)) fun x30 =>
                              mB (mP ((s19 - x17) + x30)) fun x31 =>
                              mP x31) fun s27 =>
                          mB (jf_Math_max s7.1 s27) fun x32 =>
                          mP x32) fun s13 =>
                    mB (mP (s7.2 + 1)) fun x33 =>
                    mP (Sum.inl (s13, x33))
                  else
                    mP (Sum.inr (Sum.inl s7.1))) ((-1), p1)) (Sum.elim (fun s6 =>
              mP s6) mP)) fun s5 =>
          mP s5
        else
          mP (-1)
set_option maxRecDepth 20000 in
set_option maxHeartbeats 4000000 in
theorem jb_Fitter_bearsFrom {X : qm_X} (hX : qm_ok X qr_Fitter prog_2_method_11_code 11 1 21 jl_Fitter_bearsFrom) {r0 : Int32} {σ0 : qm_Mem} (hR : qm_RI X r0 σ0 .int) (this : Nat) (p1 : Int32) (p2 : Int32) (p3 : Nat) (hthis : (qm_kd this).1 = 10) (hp3 : (qm_kd p3).1 = 1) : qm_B X (jf_Fitter_bearsFrom this p1 p2 p3) 0 [some (.ref (qx_ad X this)), some (.int p1), some (.int p2), some (.ref (qx_ad X p3)), none, none, none, none, none, none, none] [] (fun r σ1 => r = r0 ∧ σ1 = σ0) := by
  unfold jf_Fitter_bearsFrom
  refine qb_iconst hX 0 (-1) rfl (by decide) ?_
  refine qb_istore hX 1 ([some (.ref (qx_ad X this)), some (.int p1), some (.int p2), some (.ref (qx_ad X p3)), some (.int (-1)), none, none, none, none, none, none]) rfl (by decide) rfl ?_
  refine qb_iload_n hX 2 rfl rfl ?_
  refine qb_iflt hX 3 24 rfl (by decide) ?_ ?_
  ·
    refine qb_iload hX 14 rfl rfl ?_
    exact qb_iret hX 15 rfl hR (fun _ h => h)
  ·
    refine qb_iload_n hX 4 rfl rfl ?_
    refine qb_iload_n hX 5 rfl rfl ?_
    refine qb_icgt hX 6 24 rfl (by decide) ?_ ?_
    ·
      refine qb_iload hX 14 rfl rfl ?_
      exact qb_iret hX 15 rfl hR (fun _ h => h)
    ·
      refine qb_iload_n hX 7 rfl rfl ?_
      refine qb_bipush hX 8 91 rfl (by decide) ?_
      refine qb_icge hX 9 24 rfl (by decide) ?_ ?_
      ·
        refine qb_iload hX 14 rfl rfl ?_
        exact qb_iret hX 15 rfl hR (fun _ h => h)
      ·
        refine qb_iload_n hX 10 rfl rfl ?_
        refine qb_aload_n hX 11 rfl rfl ?_
        refine qb_alen hX 12 (Int32.ofNat (qm_kd p3).2) rfl (Or.inl hp3) rfl ?_
        refine qb_iclt hX 13 27 rfl (by decide) ?_ ?_
        ·
          refine qb_aload_n hX 16 rfl rfl ?_
          refine qb_getR hX 17 rfl fl_Fitter_15 hthis rfl ?_
          refine qb_getR hX 18 rfl fl_Fitter_113 (kf_Fitter_1 hthis) rfl ?_
          refine qb_iload_n hX 19 rfl rfl ?_
          refine qb_iald hX 20 rfl (kf_Flow_12 (kf_Fitter_1 hthis)) (fun x1 => ?_)
          refine qb_aload_n hX 21 rfl rfl ?_
          refine qb_getR hX 22 rfl fl_Fitter_15 hthis rfl ?_
          refine qb_getR hX 23 rfl fl_Fitter_116 (kf_Fitter_1 hthis) rfl ?_
          refine qb_iload_n hX 24 rfl rfl ?_
          refine qb_iald hX 25 rfl (kf_Flow_8 (kf_Fitter_1 hthis)) (fun x2 => ?_)
          refine qb_iadd hX 26 rfl ?_
          refine qb_aload_n hX 27 rfl rfl ?_
          refine qb_getR hX 28 rfl fl_Fitter_15 hthis rfl ?_
          refine qb_getR hX 29 rfl fl_Fitter_119 (kf_Fitter_1 hthis) rfl ?_
          refine qb_iload_n hX 30 rfl rfl ?_
          refine qb_iald hX 31 rfl (kf_Flow_11 (kf_Fitter_1 hthis)) (fun x3 => ?_)
          refine qb_isub hX 32 rfl ?_
          refine qb_istoreL hX 33 (fun x4 => [some (.ref (qx_ad X this)), some (.int p1), some (.int p2), some (.ref (qx_ad X p3)), some (.int (-1)), some (.int x4), none, none, none, none, none]) rfl (by decide) (fun _ => rfl) (fun x4 => ?_)
          refine qb_iload_n hX 34 rfl rfl ?_
          refine qb_istore hX 35 ([some (.ref (qx_ad X this)), some (.int p1), some (.int p2), some (.ref (qx_ad X p3)), some (.int (-1)), some (.int x4), some (.int p1), none, none, none, none]) rfl (by decide) rfl ?_
          refine qb_join 247 (fun s5 => [none, none, none, none, some (.int s5), none, none, none, none, none, none]) (fun s5 => []) ?_ ?_
          ·
            refine qb_join2 102 (fun s6 => [none, none, none, none, some (.int s6), none, none, none, none, none, none]) (fun s6 => []) ?_ ?_
            ·
              refine qb_loopw (((-1), p1)) (fun s7 => [some (.ref (qx_ad X this)), some (.int p1), some (.int p2), some (.ref (qx_ad X p3)), some (.int s7.1), some (.int x4), some (.int s7.2), none, none, none, none]) (qw_s (qw_s (qw_s (qw_s (qw_s (qw_s (qw_s (qw_n (qw_n (qw_n (qw_n (qw_0)))))))))))) (fun s7 => ?_)
              refine qb_iload hX 36 rfl rfl ?_
              refine qb_iload_n hX 37 rfl rfl ?_
              refine qb_icgt hX 38 247 rfl (by decide) ?_ ?_
              ·
                exact qb_exit (fun σ h => qj_wk (ρ' := [none, none, none, none, some (.int s7.1), none, none, none, none, none, none]) (qw_n (qw_n (qw_n (qw_n (qw_s (qw_n (qw_n (qw_n (qw_n (qw_n (qw_n (qw_0)))))))))))) h)
              ·
                refine qb_aload_n hX 39 rfl rfl ?_
                refine qb_get hX 40 rfl fl_Fitter_99 hthis rfl (fun x8 => ?_)
                refine qb_iload hX 41 rfl rfl ?_
                refine qb_iload_n hX 42 rfl rfl ?_
                refine qb_join 94 (fun s9 => [some (.ref (qx_ad X this)), some (.int p1), some (.int p2), some (.ref (qx_ad X p3)), some (.int s7.1), some (.int x4), some (.int s7.2), none, none, none, none]) (fun s9 => [.int s9, .int x8]) ?_ ?_
                ·
                  refine qb_icne hX 43 81 rfl (by decide) ?_ ?_
                  ·
                    refine qb_aload_n hX 46 rfl rfl ?_
                    refine qb_getR hX 47 rfl fl_Fitter_15 hthis rfl ?_
                    refine qb_getR hX 48 rfl fl_Fitter_113 (kf_Fitter_1 hthis) rfl ?_
                    refine qb_iload hX 49 rfl rfl ?_
                    refine qb_iald hX 50 rfl (kf_Flow_12 (kf_Fitter_1 hthis)) (fun x10 => ?_)
                    refine qb_iload hX 51 rfl rfl ?_
                    refine qb_isub hX 52 rfl ?_
                    exact qb_exit (fun σ h => qj_wk (ρ' := [some (.ref (qx_ad X this)), some (.int p1), some (.int p2), some (.ref (qx_ad X p3)), some (.int s7.1), some (.int x4), some (.int s7.2), none, none, none, none]) (qw_s (qw_s (qw_s (qw_s (qw_s (qw_s (qw_s (qw_n (qw_n (qw_n (qw_n (qw_0)))))))))))) h)
                  ·
                    refine qb_iconst hX 44 0 rfl (by decide) ?_
                    exact qb_exit (fun σ h => qj_goto hX 45 rfl (by decide) (qj_wk (ρ' := [some (.ref (qx_ad X this)), some (.int p1), some (.int p2), some (.ref (qx_ad X p3)), some (.int s7.1), some (.int x4), some (.int s7.2), none, none, none, none]) (qw_s (qw_s (qw_s (qw_s (qw_s (qw_s (qw_s (qw_n (qw_n (qw_n (qw_n (qw_0)))))))))))) h))
                · intro s9
                  refine qb_isub hX 53 rfl ?_
                  refine qb_istoreL hX 54 (fun x11 => [some (.ref (qx_ad X this)), some (.int p1), some (.int p2), some (.ref (qx_ad X p3)), some (.int s7.1), some (.int x4), some (.int s7.2), some (.int x11), none, none, none]) rfl (by decide) (fun _ => rfl) (fun x11 => ?_)
                  refine qb_iload hX 55 rfl rfl ?_
                  refine qb_ifge hX 56 105 rfl (by decide) ?_ ?_
                  ·
                    refine qb_aload_n hX 58 rfl rfl ?_
                    refine qb_getR hX 59 rfl fl_Fitter_15 hthis rfl ?_
                    refine qb_getR hX 60 rfl fl_Fitter_105 (kf_Fitter_1 hthis) rfl ?_
                    refine qb_iload hX 61 rfl rfl ?_
                    refine qb_zald hX 62 rfl (kf_Flow_15 (kf_Fitter_1 hthis)) (fun x12 => ?_)
                    refine qb_join 241 (fun s13 => [some (.ref (qx_ad X this)), some (.int p1), some (.int p2), some (.ref (qx_ad X p3)), some (.int s13), some (.int x4), some (.int s7.2), none, none, none, none]) (fun s13 => []) ?_ ?_
                    ·
                      refine qb_ifeq hX 63 241 rfl (by decide) ?_ ?_
                      ·
                        exact qb_exit (fun σ h => qj_wk (ρ' := [some (.ref (qx_ad X this)), some (.int p1), some (.int p2), some (.ref (qx_ad X p3)), some (.int s7.1), some (.int x4), some (.int s7.2), none, none, none, none]) (qw_s (qw_s (qw_s (qw_s (qw_s (qw_s (qw_s (qw_n (qw_n (qw_n (qw_n (qw_0)))))))))))) h)
                      ·
                        refine qb_aload_n hX 64 rfl rfl ?_
                        refine qb_iload hX 65 rfl rfl ?_
                        refine qb_iald hX 66 rfl hp3 (fun x14 => ?_)
                        refine qb_iconst hX 67 (-1) rfl (by decide) ?_
                        refine qb_iceq hX 68 241 rfl (by decide) ?_ ?_
                        ·
                          exact qb_exit (fun σ h => qj_wk (ρ' := [some (.ref (qx_ad X this)), some (.int p1), some (.int p2), some (.ref (qx_ad X p3)), some (.int s7.1), some (.int x4), some (.int s7.2), none, none, none, none]) (qw_s (qw_s (qw_s (qw_s (qw_s (qw_s (qw_s (qw_n (qw_n (qw_n (qw_n (qw_0)))))))))))) h)
                        ·
                          refine qb_aload_n hX 69 rfl rfl ?_
                          refine qb_getR hX 70 rfl fl_Fitter_15 hthis rfl ?_
                          refine qb_getR hX 71 rfl fl_Fitter_122 (kf_Fitter_1 hthis) rfl ?_
                          refine qb_iload hX 72 rfl rfl ?_
                          refine qb_iald hX 73 rfl (kf_Flow_13 (kf_Fitter_1 hthis)) (fun x15 => ?_)
                          refine qb_aload_n hX 74 rfl rfl ?_
                          refine qb_getR hX 75 rfl fl_Fitter_15 hthis rfl ?_
                          refine qb_getR hX 76 rfl fl_Fitter_122 (kf_Fitter_1 hthis) rfl ?_
                          refine qb_iload_n hX 77 rfl rfl ?_
                          refine qb_iald hX 78 rfl (kf_Flow_13 (kf_Fitter_1 hthis)) (fun x16 => ?_)
                          refine qb_isub hX 79 rfl ?_
                          refine qb_istoreL hX 80 (fun x17 => [some (.ref (qx_ad X this)), some (.int p1), some (.int p2), some (.ref (qx_ad X p3)), some (.int s7.1), some (.int x4), some (.int s7.2), some (.int x11), some (.int x17), none, none]) rfl (by decide) (fun _ => rfl) (fun x17 => ?_)
                          refine qb_iload hX 81 rfl rfl ?_
                          refine qb_aload_n hX 82 rfl rfl ?_
                          refine qb_get hX 83 rfl fl_Fitter_41 hthis rfl (fun x18 => ?_)
                          refine qb_join 180 (fun s19 => [some (.ref (qx_ad X this)), some (.int p1), some (.int p2), some (.ref (qx_ad X p3)), some (.int s7.1), some (.int x4), some (.int s7.2), none, some (.int x17), none, none]) (fun s19 => [.int s19]) ?_ ?_
                          ·
                            refine qb_join2 164 (fun s20 => [some (.ref (qx_ad X this)), some (.int p1), some (.int p2), some (.ref (qx_ad X p3)), some (.int s7.1), some (.int x4), some (.int s7.2), none, some (.int x17), none, none]) (fun s20 => []) ?_ ?_
                            ·
                              refine qb_iclt hX 84 164 rfl (by decide) ?_ ?_
                              ·
                                exact qb_exit (fun σ h => qj_wk (ρ' := [some (.ref (qx_ad X this)), some (.int p1), some (.int p2), some (.ref (qx_ad X p3)), some (.int s7.1), some (.int x4), some (.int s7.2), none, some (.int x17), none, none]) (qw_s (qw_s (qw_s (qw_s (qw_s (qw_s (qw_s (qw_n (qw_s (qw_n (qw_n (qw_0)))))))))))) h)
                              ·
                                refine qb_aload_n hX 85 rfl rfl ?_
                                refine qb_get hX 86 rfl fl_Fitter_45 hthis rfl (fun x21 => ?_)
                                refine qb_ifgt hX 87 168 rfl (by decide) ?_ ?_
                                ·
                                  refine qb_iload hX 90 rfl rfl ?_
                                  refine qb_aload_n hX 91 rfl rfl ?_
                                  refine qb_get hX 92 rfl fl_Fitter_41 hthis rfl (fun x22 => ?_)
                                  refine qb_isub hX 93 rfl ?_
                                  refine qb_aload_n hX 94 rfl rfl ?_
                                  refine qb_get hX 95 rfl fl_Fitter_45 hthis rfl (fun x23 => ?_)
                                  refine qb_idiv hX 96 rfl (fun x24 => ?_)
                                  exact qb_exit (fun σ h => qj_wk (ρ' := [some (.ref (qx_ad X this)), some (.int p1), some (.int p2), some (.ref (qx_ad X p3)), some (.int s7.1), some (.int x4), some (.int s7.2), none, some (.int x17), none, none]) (qw_s (qw_s (qw_s (qw_s (qw_s (qw_s (qw_s (qw_n (qw_s (qw_n (qw_n (qw_0)))))))))))) h)
                                ·
                                  exact qb_exit (fun σ h => qj_wk (ρ' := [some (.ref (qx_ad X this)), some (.int p1), some (.int p2), some (.ref (qx_ad X p3)), some (.int s7.1), some (.int x4), some (.int s7.2), none, some (.int x17), none, none]) (qw_s (qw_s (qw_s (qw_s (qw_s (qw_s (qw_s (qw_n (qw_s (qw_n (qw_n (qw_0)))))))))))) h)
                            · intro s20
                              refine qb_iconst hX 88 0 rfl (by decide) ?_
                              exact qb_exit (fun σ h => qj_goto hX 89 rfl (by decide) (qj_wk (ρ' := [some (.ref (qx_ad X this)), some (.int p1), some (.int p2), some (.ref (qx_ad X p3)), some (.int s7.1), some (.int x4), some (.int s7.2), none, some (.int x17), none, none]) (qw_s (qw_s (qw_s (qw_s (qw_s (qw_s (qw_s (qw_n (qw_s (qw_n (qw_n (qw_0)))))))))))) h))
                          · intro s19
                            refine qb_istore hX 97 ([some (.ref (qx_ad X this)), some (.int p1), some (.int p2), some (.ref (qx_ad X p3)), some (.int s7.1), some (.int x4), some (.int s7.2), none, some (.int x17), some (.int s19), none]) rfl (by decide) rfl ?_
                            refine qb_iload hX 98 rfl rfl ?_
                            refine qb_join 198 (fun s25 => [some (.ref (qx_ad X this)), some (.int p1), some (.int p2), some (.ref (qx_ad X p3)), some (.int s7.1), some (.int x4), some (.int s7.2), none, some (.int x17), some (.int s19), none]) (fun s25 => [.int s25]) ?_ ?_
                            ·
                              refine qb_ifne hX 99 191 rfl (by decide) ?_ ?_
                              ·
                                refine qb_iload hX 102 rfl rfl ?_
                                refine qb_aload_n hX 103 rfl rfl ?_
                                refine qb_iload hX 104 rfl rfl ?_
                                refine qb_iald hX 105 rfl hp3 (fun x26 => ?_)
                                refine qb_iadd hX 106 rfl ?_
                                exact qb_exit (fun σ h => qj_wk (ρ' := [some (.ref (qx_ad X this)), some (.int p1), some (.int p2), some (.ref (qx_ad X p3)), some (.int s7.1), some (.int x4), some (.int s7.2), none, some (.int x17), some (.int s19), none]) (qw_s (qw_s (qw_s (qw_s (qw_s (qw_s (qw_s (qw_n (qw_s (qw_s (qw_n (qw_0)))))))))))) h)
                              ·
                                refine qb_iconst hX 100 0 rfl (by decide) ?_
                                exact qb_exit (fun σ h => qj_goto hX 101 rfl (by decide) (qj_wk (ρ' := [some (.ref (qx_ad X this)), some (.int p1), some (.int p2), some (.ref (qx_ad X p3)), some (.int s7.1), some (.int x4), some (.int s7.2), none, some (.int x17), some (.int s19), none]) (qw_s (qw_s (qw_s (qw_s (qw_s (qw_s (qw_s (qw_n (qw_s (qw_s (qw_n (qw_0)))))))))))) h))
                            · intro s25
                              refine qb_istore hX 107 ([some (.ref (qx_ad X this)), some (.int p1), some (.int p2), some (.ref (qx_ad X p3)), some (.int s7.1), some (.int x4), some (.int s7.2), none, some (.int x17), some (.int s19), some (.int s25)]) rfl (by decide) rfl ?_
                              refine qb_iload hX 108 rfl rfl ?_
                              refine qb_join 232 (fun s27 => [some (.ref (qx_ad X this)), some (.int p1), some (.int p2), some (.ref (qx_ad X p3)), some (.int s7.1), some (.int x4), some (.int s7.2), none, none, none, some (.int s27)]) (fun s27 => []) ?_ ?_
                              ·
                                refine qb_ifle hX 109 232 rfl (by decide) ?_ ?_
                                ·
                                  exact qb_exit (fun σ h => qj_wk (ρ' := [some (.ref (qx_ad X this)), some (.int p1), some (.int p2), some (.ref (qx_ad X p3)), some (.int s7.1), some (.int x4), some (.int s7.2), none, none, none, some (.int s25)]) (qw_s (qw_s (qw_s (qw_s (qw_s (qw_s (qw_s (qw_n (qw_n (qw_n (qw_s (qw_0)))))))))))) h)
                                ·
                                  refine qb_iload hX 110 rfl rfl ?_
                                  refine qb_iload hX 111 rfl rfl ?_
                                  refine qb_isub hX 112 rfl ?_
                                  refine qb_aload_n hX 113 rfl rfl ?_
                                  refine qb_iload hX 114 rfl rfl ?_
                                  refine qb_iald hX 115 rfl hp3 (fun x28 => ?_)
                                  refine qb_aload_n hX 116 rfl rfl ?_
                                  refine qb_getR hX 117 rfl fl_Fitter_15 hthis rfl ?_
                                  refine qb_getR hX 118 rfl fl_Fitter_125 (kf_Fitter_1 hthis) rfl ?_
                                  refine qb_iload hX 119 rfl rfl ?_
                                  refine qb_iald hX 120 rfl (kf_Flow_14 (kf_Fitter_1 hthis)) (fun x29 => ?_)
                                  refine qb_iconst hX 121 1 rfl (by decide) ?_
                                  refine qb_isub hX 122 rfl ?_
                                  refine qb_mmin hX 123 rfl cv_Fitter_96 (by decide) (by exact Nat.le_of_ble_eq_true rfl) (fun x30 => ?_)
                                  refine qb_iadd hX 124 rfl ?_
                                  refine qb_istoreL hX 125 (fun x31 => [some (.ref (qx_ad X this)), some (.int p1), some (.int p2), some (.ref (qx_ad X p3)), some (.int s7.1), some (.int x4), some (.int s7.2), none, some (.int x17), some (.int s19), some (.int x31)]) rfl (by decide) (fun _ => rfl) (fun x31 => ?_)
                                  exact qb_exit (fun σ h => qj_wk (ρ' := [some (.ref (qx_ad X this)), some (.int p1), some (.int p2), some (.ref (qx_ad X p3)), some (.int s7.1), some (.int x4), some (.int s7.2), none, none, none, some (.int x31)]) (qw_s (qw_s (qw_s (qw_s (qw_s (qw_s (qw_s (qw_n (qw_n (qw_n (qw_s (qw_0)))))))))))) h)
                              · intro s27
                                refine qb_iload hX 126 rfl rfl ?_
                                refine qb_iload hX 127 rfl rfl ?_
                                refine qb_mmax hX 128 rfl cv_Fitter_66 (by decide) (by exact Nat.le_of_ble_eq_true rfl) (fun x32 => ?_)
                                refine qb_istore hX 129 ([some (.ref (qx_ad X this)), some (.int p1), some (.int p2), some (.ref (qx_ad X p3)), some (.int x32), some (.int x4), some (.int s7.2), none, none, none, some (.int s27)]) rfl (by decide) rfl ?_
                                exact qb_exit (fun σ h => qj_wk (ρ' := [some (.ref (qx_ad X this)), some (.int p1), some (.int p2), some (.ref (qx_ad X p3)), some (.int x32), some (.int x4), some (.int s7.2), none, none, none, none]) (qw_s (qw_s (qw_s (qw_s (qw_s (qw_s (qw_s (qw_n (qw_n (qw_n (qw_n (qw_0)))))))))))) h)
                    · intro s13
                      refine qb_iinc hX 130 1 (fun x33 => [some (.ref (qx_ad X this)), some (.int p1), some (.int p2), some (.ref (qx_ad X p3)), some (.int s13), some (.int x4), some (.int x33), none, none, none, none]) rfl (by decide) (by decide) rfl (fun _ => rfl) (fun x33 => ?_)
                      exact qb_exit (fun σ h => qj_goto hX 131 rfl (by decide) (qj_wk (ρ' := [some (.ref (qx_ad X this)), some (.int p1), some (.int p2), some (.ref (qx_ad X p3)), some (.int s13), some (.int x4), some (.int x33), none, none, none, none]) (qw_s (qw_s (qw_s (qw_s (qw_s (qw_s (qw_s (qw_n (qw_n (qw_n (qw_n (qw_0)))))))))))) h))
                  ·
                    exact qb_exit (fun σ h => qj_wk (ρ' := [none, none, none, none, some (.int s7.1), none, none, none, none, none, none]) (qw_n (qw_n (qw_n (qw_n (qw_s (qw_n (qw_n (qw_n (qw_n (qw_n (qw_n (qw_0)))))))))))) h)
            · intro s6
              exact qb_exit (fun σ h => qj_goto hX 57 rfl (by decide) (qj_wk (ρ' := [none, none, none, none, some (.int s6), none, none, none, none, none, none]) (qw_n (qw_n (qw_n (qw_n (qw_s (qw_n (qw_n (qw_n (qw_n (qw_n (qw_n (qw_0)))))))))))) h))
          · intro s5
            refine qb_iload hX 132 rfl rfl ?_
            exact qb_iret hX 133 rfl hR (fun _ h => h)
        ·
          refine qb_iload hX 14 rfl rfl ?_
          exact qb_iret hX 15 rfl hR (fun _ h => h)
theorem jm_Fitter_bearsFrom {l : Launch} {G : qm_G} (hG : qm_GI G) (this : Nat) (p1 : Int32) (p2 : Int32) (p3 : Nat) (hthis : (qm_kd this).1 = 10) (hp3 : (qm_kd p3).1 = 1) : qm_MI l G jy_Fitter_bearsFrom prog_2_method_11_code 11 (some .int) 1 21 [.ref (G.1 this), .int p1, .int p2, .ref (G.1 p3)] (jf_Fitter_bearsFrom this p1 p2 p3) :=
  qm_metI (by decide +kernel) jd_Fitter_bearsFrom (fun v hv => by simp only [List.mem_cons, List.not_mem_nil, or_false] at hv; rcases hv with rfl | rfl | rfl | rfl <;> rfl) (by exact Nat.le_of_ble_eq_true rfl) hG rfl (fun X hl hg hX r0 σ0 hR => by subst hl; subst hg; exact jb_Fitter_bearsFrom hX hR this p1 p2 p3 hthis hp3)
def jl_Fitter_measure : List qm_I := [(0, .iconst 0, 1, 1), (1, .aload_n 0, 1, 2), (2, .getfield 15, 3, 5), (5, .getfield 75, 3, 8), (8, .iload_n 1, 1, 9), (9, .invokestatic 78, 3, 12), (12, .invokestatic 66, 3, 15), (15, .istore 4, 2, 17), (17, .bipush 90, 2, 19), (19, .aload_n 0, 1, 20), (20, .getfield 15, 3, 23), (23, .getfield 93, 3, 26), (26, .iload_n 1, 1, 27), (27, .invokestatic 78, 3, 30), (30, .invokestatic 96, 3, 33), (33, .istore 5, 2, 35), (35, .iload_n 1, 1, 36), (36, .aload_n 0, 1, 37), (37, .getfield 48, 3, 40), (40, .if_icmp .ne 11, 3, 43), (43, .iload_n 3, 1, 44), (44, .aload_n 0, 1, 45), (45, .getfield 99, 3, 48), (48, .if_icmp .eq 56, 3, 51), (51, .aload_n 0, 1, 52), (52, .iload_n 1, 1, 53), (53, .putfield 48, 3, 56), (56, .aload_n 0, 1, 57), (57, .iload_n 3, 1, 58), (58, .putfield 99, 3, 61), (61, .aload_n 0, 1, 62), (62, .iconst 0, 1, 63), (63, .putfield 102, 3, 66), (66, .iload 4, 2, 68), (68, .istore 6, 2, 70), (70, .iload 6, 2, 72), (72, .iload 5, 2, 74), (74, .if_icmp .gt 30, 3, 77), (77, .aload_n 0, 1, 78), (78, .getfield 21, 3, 81), (81, .iconst 0, 1, 82), (82, .aaload, 1, 83), (83, .iload 6, 2, 85), (85, .iload 6, 2, 87), (87, .iload 5, 2, 89), (89, .if_icmp .ne 7, 3, 92), (92, .iconst 0, 1, 93), (93, .goto 4, 3, 96), (96, .iconst (-1), 1, 97), (97, .iastore, 1, 98), (98, .iinc 6 1, 3, 101), (101, .goto (-31), 3, 104), (104, .aload_n 0, 1, 105), (105, .getfield 102, 3, 108), (108, .iload_n 2, 1, 109), (109, .if_icmp .ge 95, 3, 112), (112, .aload_n 0, 1, 113), (113, .getfield 102, 3, 116), (116, .iconst 5, 1, 117), (117, .if_icmp .ge 87, 3, 120), (120, .aload_n 0, 1, 121), (121, .getfield 21, 3, 124), (124, .aload_n 0, 1, 125), (125, .getfield 102, 3, 128), (128, .aaload, 1, 129), (129, .astore 6, 2, 131), (131, .aload_n 0, 1, 132), (132, .dup, 1, 133), (133, .getfield 102, 3, 136), (136, .iconst 1, 1, 137), (137, .iadd, 1, 138), (138, .putfield 102, 3, 141), (141, .aload_n 0, 1, 142), (142, .getfield 21, 3, 145), (145, .aload_n 0, 1, 146), (146, .getfield 102, 3, 149), (149, .aaload, 1, 150), (150, .astore 7, 2, 152), (152, .iload 4, 2, 154), (154, .istore 8, 2, 156), (156, .iload 8, 2, 158), (158, .iload 5, 2, 160), (160, .if_icmp .gt 41, 3, 163), (163, .aload 7, 2, 165), (165, .iload 8, 2, 167), (167, .aload_n 0, 1, 168), (168, .getfield 15, 3, 171), (171, .getfield 105, 3, 174), (174, .iload 8, 2, 176), (176, .baload, 1, 177), (177, .ifCond .eq 16, 3, 180), (180, .aload_n 0, 1, 181), (181, .iload 8, 2, 183), (183, .iload 5, 2, 185), (185, .aload 6, 2, 187), (187, .invokevirtual 109, 3, 190), (190, .goto 4, 3, 193), (193, .iconst (-1), 1, 194), (194, .iastore, 1, 195), (195, .iinc 8 1, 3, 198), (198, .goto (-42), 3, 201), (201, .goto (-97), 3, 204), (204, .return_, 1, 205)]
theorem jd_Fitter_measure : qm_D prog_2_method_10_code jl_Fitter_measure := qm_D_of (by decide +kernel)
noncomputable def jf_Fitter_measure (this : Nat) (p1 : Int32) (p2 : Int32) (p3 : Int32) : qm_M Unit :=
  mB (jf_Top_at (qm_rf (qm_rf this 1) 16) p1) fun x1 =>
  mB (jf_Math_max 0 x1) fun x2 =>
  mB (jf_Top_at (qm_rf (qm_rf this 1) 17) p1) fun x3 =>
  mB (jf_Math_min 90 x3) fun x4 =>
  mB (mGt this 5) fun x5 =>
  mB (α := Unit) (
    mB (α := (Unit ⊕ Unit)) (
      if ¬ p1 = x5 then
        mP (Sum.inl ())
      else
        mB (mGt this 6) fun x8 =>
        if p3 = x8 then
          mP (Sum.inr ())
        else
          mP (Sum.inl ())) (Sum.elim (fun s7 =>
      mB (mPt this 5 p1) fun _ =>
      mB (mPt this 6 p3) fun _ =>
      mB (mPt this 7 0) fun _ =>
      mW (S := Int32) (α := Unit) (fun s9 =>
        if x4 < s9 then
          mP (Sum.inr ())
        else
          mB (mLr (qm_rf this 4) 0) fun r10 =>
          mB (α := Int32) (
            if ¬ s9 = x4 then
              mP (-1)
            else
              mP 0) fun s11 =>
          mB (mSt r10 s9 s11) fun _ =>
          mB (mP (s9 + 1)) fun x12 =>
          mP (Sum.inl x12)) x2) mP)) fun s6 =>
  mB (α := Unit) (
    mW (S := Unit) (α := Unit) (fun s14 =>
      mB (mGt this 7) fun x15 =>
      if p2 ≤ x15 then
        mP (Sum.inr ())
      else
        mB (mGt this 7) fun x16 =>
        if 5 ≤ x16 then
          mP (Sum.inr ())
        else
          mB (mGt this 7) fun x17 =>
          mB (mLr (qm_rf this 4) x17) fun r18 =>
          mB (mGt this 7) fun x19 =>
          mB (mPt this 7 (x19 + 1)) fun _ =>
          mB (mGt this 7) fun x20 =>
          mB (mLr (qm_rf this 4) x20) fun r21 =>
          mB (α := Unit) (
            mW (S := Int32) (α := Unit) (fun s23 =>
              if x4 < s23 then
                mP (Sum.inr ())
              else
                mB (mLd (qm_rf (qm_rf this 1) 15) s23) fun x24 =>
                mB (α := Int32) (
                  if x24 = 0 then
                    mP (-1)
                  else
                    mB (jf_Fitter_bearsFrom this s23 x4 r18) fun x26 =>
                    mP x26) fun s25 =>
                mB (mSt r21 s23 s25) fun _ =>
                mB (mP (s23 + 1)) fun x27 =>
                mP (Sum.inl x27)) x2) fun s22 =>
          mP (Sum.inl ())) ()) fun s13 =>
  mP ()
set_option maxRecDepth 20000 in
set_option maxHeartbeats 4000000 in
theorem jb_Fitter_measure {X : qm_X} (hX : qm_ok X qr_Fitter prog_2_method_10_code 9 2 51 jl_Fitter_measure) {σ0 : qm_Mem} (hR : qm_RV X σ0) (this : Nat) (p1 : Int32) (p2 : Int32) (p3 : Int32) (hthis : (qm_kd this).1 = 10) : qm_B X (jf_Fitter_measure this p1 p2 p3) 0 [some (.ref (qx_ad X this)), some (.int p1), some (.int p2), some (.int p3), none, none, none, none, none] [] (fun _ σ1 => σ1 = σ0) := by
  unfold jf_Fitter_measure
  refine qb_iconst hX 0 0 rfl (by decide) ?_
  refine qb_aload_n hX 1 rfl rfl ?_
  refine qb_getR hX 2 rfl fl_Fitter_15 hthis rfl ?_
  refine qb_getR hX 3 rfl fl_Fitter_75 (kf_Fitter_1 hthis) rfl ?_
  refine qb_iload_n hX 4 rfl rfl ?_
  refine qb_calNI hX 5 rfl cv_Fitter_78 (jm_Top_at (qk_GI hX) (qm_rf (qm_rf this 1) 16) p1 (kf_Flow_16 (kf_Fitter_1 hthis))) ⟨rfl, by decide, by decide⟩ rfl (by exact Nat.le_of_ble_eq_true rfl) (fun x1 => ?_)
  refine qb_mmax hX 6 rfl cv_Fitter_66 (by decide) (by exact Nat.le_of_ble_eq_true rfl) (fun x2 => ?_)
  refine qb_istore hX 7 ([some (.ref (qx_ad X this)), some (.int p1), some (.int p2), some (.int p3), some (.int x2), none, none, none, none]) rfl (by decide) rfl ?_
  refine qb_bipush hX 8 90 rfl (by decide) ?_
  refine qb_aload_n hX 9 rfl rfl ?_
  refine qb_getR hX 10 rfl fl_Fitter_15 hthis rfl ?_
  refine qb_getR hX 11 rfl fl_Fitter_93 (kf_Fitter_1 hthis) rfl ?_
  refine qb_iload_n hX 12 rfl rfl ?_
  refine qb_calNI hX 13 rfl cv_Fitter_78 (jm_Top_at (qk_GI hX) (qm_rf (qm_rf this 1) 17) p1 (kf_Flow_17 (kf_Fitter_1 hthis))) ⟨rfl, by decide, by decide⟩ rfl (by exact Nat.le_of_ble_eq_true rfl) (fun x3 => ?_)
  refine qb_mmin hX 14 rfl cv_Fitter_96 (by decide) (by exact Nat.le_of_ble_eq_true rfl) (fun x4 => ?_)
  refine qb_istore hX 15 ([some (.ref (qx_ad X this)), some (.int p1), some (.int p2), some (.int p3), some (.int x2), some (.int x4), none, none, none]) rfl (by decide) rfl ?_
  refine qb_iload_n hX 16 rfl rfl ?_
  refine qb_aload_n hX 17 rfl rfl ?_
  refine qb_get hX 18 rfl fl_Fitter_48 hthis rfl (fun x5 => ?_)
  refine qb_join 104 (fun s6 => [some (.ref (qx_ad X this)), none, some (.int p2), none, some (.int x2), some (.int x4), none, none, none]) (fun s6 => []) ?_ ?_
  ·
    refine qb_join2 51 (fun s7 => [some (.ref (qx_ad X this)), some (.int p1), some (.int p2), some (.int p3), some (.int x2), some (.int x4), none, none, none]) (fun s7 => []) ?_ ?_
    ·
      refine qb_icne hX 19 51 rfl (by decide) ?_ ?_
      ·
        exact qb_exit (fun σ h => qj_wk (ρ' := [some (.ref (qx_ad X this)), some (.int p1), some (.int p2), some (.int p3), some (.int x2), some (.int x4), none, none, none]) (qw_s (qw_s (qw_s (qw_s (qw_s (qw_s (qw_n (qw_n (qw_n (qw_0)))))))))) h)
      ·
        refine qb_iload_n hX 20 rfl rfl ?_
        refine qb_aload_n hX 21 rfl rfl ?_
        refine qb_get hX 22 rfl fl_Fitter_99 hthis rfl (fun x8 => ?_)
        refine qb_iceq hX 23 104 rfl (by decide) ?_ ?_
        ·
          exact qb_exit (fun σ h => qj_wk (ρ' := [some (.ref (qx_ad X this)), none, some (.int p2), none, some (.int x2), some (.int x4), none, none, none]) (qw_s (qw_n (qw_s (qw_n (qw_s (qw_s (qw_n (qw_n (qw_n (qw_0)))))))))) h)
        ·
          exact qb_exit (fun σ h => qj_wk (ρ' := [some (.ref (qx_ad X this)), some (.int p1), some (.int p2), some (.int p3), some (.int x2), some (.int x4), none, none, none]) (qw_s (qw_s (qw_s (qw_s (qw_s (qw_s (qw_n (qw_n (qw_n (qw_0)))))))))) h)
    · intro s7
      refine qb_aload_n hX 24 rfl rfl ?_
      refine qb_iload_n hX 25 rfl rfl ?_
      refine qb_put hX 26 rfl fp_Fitter_48 hthis ?_
      refine qb_aload_n hX 27 rfl rfl ?_
      refine qb_iload_n hX 28 rfl rfl ?_
      refine qb_put hX 29 rfl fp_Fitter_99 hthis ?_
      refine qb_aload_n hX 30 rfl rfl ?_
      refine qb_iconst hX 31 0 rfl (by decide) ?_
      refine qb_put hX 32 rfl fp_Fitter_102 hthis ?_
      refine qb_iload hX 33 rfl rfl ?_
      refine qb_istore hX 34 ([some (.ref (qx_ad X this)), some (.int p1), some (.int p2), some (.int p3), some (.int x2), some (.int x4), some (.int x2), none, none]) rfl (by decide) rfl ?_
      refine qb_loopw (x2) (fun s9 => [some (.ref (qx_ad X this)), none, some (.int p2), none, some (.int x2), some (.int x4), some (.int s9), none, none]) (qw_s (qw_n (qw_s (qw_n (qw_s (qw_s (qw_s (qw_n (qw_n (qw_0)))))))))) (fun s9 => ?_)
      refine qb_iload hX 35 rfl rfl ?_
      refine qb_iload hX 36 rfl rfl ?_
      refine qb_icgt hX 37 104 rfl (by decide) ?_ ?_
      ·
        exact qb_exit (fun σ h => qj_wk (ρ' := [some (.ref (qx_ad X this)), none, some (.int p2), none, some (.int x2), some (.int x4), none, none, none]) (qw_s (qw_n (qw_s (qw_n (qw_s (qw_s (qw_n (qw_n (qw_n (qw_0)))))))))) h)
      ·
        refine qb_aload_n hX 38 rfl rfl ?_
        refine qb_getR hX 39 rfl fl_Fitter_21 hthis rfl ?_
        refine qb_iconst hX 40 0 rfl (by decide) ?_
        refine qb_aald hX 41 rfl (Or.inl (kf_Fitter_4 hthis)) (ka_4 (kf_Fitter_4 hthis)) (fun r10 hr10 => ?_)
        refine qb_iload hX 42 rfl rfl ?_
        refine qb_iload hX 43 rfl rfl ?_
        refine qb_iload hX 44 rfl rfl ?_
        refine qb_join 97 (fun s11 => [some (.ref (qx_ad X this)), none, some (.int p2), none, some (.int x2), some (.int x4), some (.int s9), none, none]) (fun s11 => [.int s11, .int s9, .ref (qx_ad X r10)]) ?_ ?_
        ·
          refine qb_icne hX 45 96 rfl (by decide) ?_ ?_
          ·
            refine qb_iconst hX 48 (-1) rfl (by decide) ?_
            exact qb_exit (fun σ h => qj_wk (ρ' := [some (.ref (qx_ad X this)), none, some (.int p2), none, some (.int x2), some (.int x4), some (.int s9), none, none]) (qw_s (qw_n (qw_s (qw_n (qw_s (qw_s (qw_s (qw_n (qw_n (qw_0)))))))))) h)
          ·
            refine qb_iconst hX 46 0 rfl (by decide) ?_
            exact qb_exit (fun σ h => qj_goto hX 47 rfl (by decide) (qj_wk (ρ' := [some (.ref (qx_ad X this)), none, some (.int p2), none, some (.int x2), some (.int x4), some (.int s9), none, none]) (qw_s (qw_n (qw_s (qw_n (qw_s (qw_s (qw_s (qw_n (qw_n (qw_0)))))))))) h))
        · intro s11
          refine qb_iast hX 49 rfl hr10 ?_
          refine qb_iinc hX 50 1 (fun x12 => [some (.ref (qx_ad X this)), none, some (.int p2), none, some (.int x2), some (.int x4), some (.int x12), none, none]) rfl (by decide) (by decide) rfl (fun _ => rfl) (fun x12 => ?_)
          exact qb_exit (fun σ h => qj_goto hX 51 rfl (by decide) (qj_wk (ρ' := [some (.ref (qx_ad X this)), none, some (.int p2), none, some (.int x2), some (.int x4), some (.int x12), none, none]) (qw_s (qw_n (qw_s (qw_n (qw_s (qw_s (qw_s (qw_n (qw_n (qw_0)))))))))) h))
  · intro s6
    refine qb_join 204 (fun s13 => [none, none, none, none, none, none, none, none, none]) (fun s13 => []) ?_ ?_
    ·
      refine qb_loopw (()) (fun s14 => [some (.ref (qx_ad X this)), none, some (.int p2), none, some (.int x2), some (.int x4), none, none, none]) (qw_s (qw_n (qw_s (qw_n (qw_s (qw_s (qw_n (qw_n (qw_n (qw_0)))))))))) (fun s14 => ?_)
      refine qb_aload_n hX 52 rfl rfl ?_
      refine qb_get hX 53 rfl fl_Fitter_102 hthis rfl (fun x15 => ?_)
      refine qb_iload_n hX 54 rfl rfl ?_
      refine qb_icge hX 55 204 rfl (by decide) ?_ ?_
      ·
        exact qb_exit (fun σ h => qj_wk (ρ' := [none, none, none, none, none, none, none, none, none]) (qw_n (qw_n (qw_n (qw_n (qw_n (qw_n (qw_n (qw_n (qw_n (qw_0)))))))))) h)
      ·
        refine qb_aload_n hX 56 rfl rfl ?_
        refine qb_get hX 57 rfl fl_Fitter_102 hthis rfl (fun x16 => ?_)
        refine qb_iconst hX 58 5 rfl (by decide) ?_
        refine qb_icge hX 59 204 rfl (by decide) ?_ ?_
        ·
          exact qb_exit (fun σ h => qj_wk (ρ' := [none, none, none, none, none, none, none, none, none]) (qw_n (qw_n (qw_n (qw_n (qw_n (qw_n (qw_n (qw_n (qw_n (qw_0)))))))))) h)
        ·
          refine qb_aload_n hX 60 rfl rfl ?_
          refine qb_getR hX 61 rfl fl_Fitter_21 hthis rfl ?_
          refine qb_aload_n hX 62 rfl rfl ?_
          refine qb_get hX 63 rfl fl_Fitter_102 hthis rfl (fun x17 => ?_)
          refine qb_aald hX 64 rfl (Or.inl (kf_Fitter_4 hthis)) (ka_4 (kf_Fitter_4 hthis)) (fun r18 hr18 => ?_)
          refine qb_astore hX 65 ([some (.ref (qx_ad X this)), none, some (.int p2), none, some (.int x2), some (.int x4), some (.ref (qx_ad X r18)), none, none]) rfl (by decide) rfl ?_
          refine qb_aload_n hX 66 rfl rfl ?_
          refine qb_dup hX 67 rfl rfl ?_
          refine qb_get hX 68 rfl fl_Fitter_102 hthis rfl (fun x19 => ?_)
          refine qb_iconst hX 69 1 rfl (by decide) ?_
          refine qb_iadd hX 70 rfl ?_
          refine qb_put hX 71 rfl fp_Fitter_102 hthis ?_
          refine qb_aload_n hX 72 rfl rfl ?_
          refine qb_getR hX 73 rfl fl_Fitter_21 hthis rfl ?_
          refine qb_aload_n hX 74 rfl rfl ?_
          refine qb_get hX 75 rfl fl_Fitter_102 hthis rfl (fun x20 => ?_)
          refine qb_aald hX 76 rfl (Or.inl (kf_Fitter_4 hthis)) (ka_4 (kf_Fitter_4 hthis)) (fun r21 hr21 => ?_)
          refine qb_astore hX 77 ([some (.ref (qx_ad X this)), none, some (.int p2), none, some (.int x2), some (.int x4), some (.ref (qx_ad X r18)), some (.ref (qx_ad X r21)), none]) rfl (by decide) rfl ?_
          refine qb_iload hX 78 rfl rfl ?_
          refine qb_istore hX 79 ([some (.ref (qx_ad X this)), none, some (.int p2), none, some (.int x2), some (.int x4), some (.ref (qx_ad X r18)), some (.ref (qx_ad X r21)), some (.int x2)]) rfl (by decide) rfl ?_
          refine qb_join 201 (fun s22 => [some (.ref (qx_ad X this)), none, some (.int p2), none, some (.int x2), some (.int x4), none, none, none]) (fun s22 => []) ?_ ?_
          ·
            refine qb_loopw (x2) (fun s23 => [some (.ref (qx_ad X this)), none, some (.int p2), none, some (.int x2), some (.int x4), some (.ref (qx_ad X r18)), some (.ref (qx_ad X r21)), some (.int s23)]) (qw_s (qw_n (qw_s (qw_n (qw_s (qw_s (qw_s (qw_s (qw_s (qw_0)))))))))) (fun s23 => ?_)
            refine qb_iload hX 80 rfl rfl ?_
            refine qb_iload hX 81 rfl rfl ?_
            refine qb_icgt hX 82 201 rfl (by decide) ?_ ?_
            ·
              exact qb_exit (fun σ h => qj_wk (ρ' := [some (.ref (qx_ad X this)), none, some (.int p2), none, some (.int x2), some (.int x4), none, none, none]) (qw_s (qw_n (qw_s (qw_n (qw_s (qw_s (qw_n (qw_n (qw_n (qw_0)))))))))) h)
            ·
              refine qb_aload hX 83 rfl rfl ?_
              refine qb_iload hX 84 rfl rfl ?_
              refine qb_aload_n hX 85 rfl rfl ?_
              refine qb_getR hX 86 rfl fl_Fitter_15 hthis rfl ?_
              refine qb_getR hX 87 rfl fl_Fitter_105 (kf_Fitter_1 hthis) rfl ?_
              refine qb_iload hX 88 rfl rfl ?_
              refine qb_zald hX 89 rfl (kf_Flow_15 (kf_Fitter_1 hthis)) (fun x24 => ?_)
              refine qb_join 194 (fun s25 => [some (.ref (qx_ad X this)), none, some (.int p2), none, some (.int x2), some (.int x4), some (.ref (qx_ad X r18)), some (.ref (qx_ad X r21)), some (.int s23)]) (fun s25 => [.int s25, .int s23, .ref (qx_ad X r21)]) ?_ ?_
              ·
                refine qb_ifeq hX 90 193 rfl (by decide) ?_ ?_
                ·
                  refine qb_iconst hX 97 (-1) rfl (by decide) ?_
                  exact qb_exit (fun σ h => qj_wk (ρ' := [some (.ref (qx_ad X this)), none, some (.int p2), none, some (.int x2), some (.int x4), some (.ref (qx_ad X r18)), some (.ref (qx_ad X r21)), some (.int s23)]) (qw_s (qw_n (qw_s (qw_n (qw_s (qw_s (qw_s (qw_s (qw_s (qw_0)))))))))) h)
                ·
                  refine qb_aload_n hX 91 rfl rfl ?_
                  refine qb_iload hX 92 rfl rfl ?_
                  refine qb_iload hX 93 rfl rfl ?_
                  refine qb_aload hX 94 rfl rfl ?_
                  refine qb_callI hX 95 rfl cv_Fitter_109 (jm_Fitter_bearsFrom (qk_GI hX) this s23 x4 r18 hthis hr18) (ci := 0) hthis ⟨rfl, rfl, rfl, by decide, by decide⟩ rfl (by exact Nat.le_of_ble_eq_true rfl) (fun x26 => ?_)
                  exact qb_exit (fun σ h => qj_goto hX 96 rfl (by decide) (qj_wk (ρ' := [some (.ref (qx_ad X this)), none, some (.int p2), none, some (.int x2), some (.int x4), some (.ref (qx_ad X r18)), some (.ref (qx_ad X r21)), some (.int s23)]) (qw_s (qw_n (qw_s (qw_n (qw_s (qw_s (qw_s (qw_s (qw_s (qw_0)))))))))) h))
              · intro s25
                refine qb_iast hX 98 rfl hr21 ?_
                refine qb_iinc hX 99 1 (fun x27 => [some (.ref (qx_ad X this)), none, some (.int p2), none, some (.int x2), some (.int x4), some (.ref (qx_ad X r18)), some (.ref (qx_ad X r21)), some (.int x27)]) rfl (by decide) (by decide) rfl (fun _ => rfl) (fun x27 => ?_)
                exact qb_exit (fun σ h => qj_goto hX 100 rfl (by decide) (qj_wk (ρ' := [some (.ref (qx_ad X this)), none, some (.int p2), none, some (.int x2), some (.int x4), some (.ref (qx_ad X r18)), some (.ref (qx_ad X r21)), some (.int x27)]) (qw_s (qw_n (qw_s (qw_n (qw_s (qw_s (qw_s (qw_s (qw_s (qw_0)))))))))) h))
          · intro s22
            exact qb_exit (fun σ h => qj_goto hX 101 rfl (by decide) (qj_wk (ρ' := [some (.ref (qx_ad X this)), none, some (.int p2), none, some (.int x2), some (.int x4), none, none, none]) (qw_s (qw_n (qw_s (qw_n (qw_s (qw_s (qw_n (qw_n (qw_n (qw_0)))))))))) h))
    · intro s13
      exact qb_vret hX 102 rfl hR (fun _ h => h)
theorem jm_Fitter_measure {l : Launch} {G : qm_G} (hG : qm_GI G) (this : Nat) (p1 : Int32) (p2 : Int32) (p3 : Int32) (hthis : (qm_kd this).1 = 10) : qm_MV l G jy_Fitter_measure prog_2_method_10_code 9 2 51 [.ref (G.1 this), .int p1, .int p2, .int p3] (jf_Fitter_measure this p1 p2 p3) :=
  qm_metV (by decide +kernel) jd_Fitter_measure (fun v hv => by simp only [List.mem_cons, List.not_mem_nil, or_false] at hv; rcases hv with rfl | rfl | rfl | rfl <;> rfl) (by exact Nat.le_of_ble_eq_true rfl) hG (fun X hl hg hX σ0 hR => by subst hl; subst hg; exact jb_Fitter_measure hX hR this p1 p2 p3 hthis)
def jl_Fitter_leastFrom : List qm_I := [(0, .aload_n 0, 1, 1), (1, .iload_n 1, 1, 2), (2, .iload_n 2, 1, 3), (3, .iload_n 3, 1, 4), (4, .invokevirtual 89, 3, 7), (7, .istore 5, 2, 9), (9, .iload 5, 2, 11), (11, .iconst (-1), 1, 12), (12, .if_icmp .ne 7, 3, 15), (15, .iconst (-1), 1, 16), (16, .goto 12, 3, 19), (19, .aload_n 0, 1, 20), (20, .getfield 24, 3, 23), (23, .iload 5, 2, 25), (25, .invokestatic 78, 3, 28), (28, .istore 6, 2, 30), (30, .iload 6, 2, 32), (32, .iconst (-1), 1, 33), (33, .if_icmp .eq 18, 3, 36), (36, .iload 6, 2, 38), (38, .iload 4, 2, 40), (40, .if_icmp .gt 8, 3, 43), (43, .iload 6, 2, 45), (45, .goto 5, 3, 48), (48, .bipush (-2), 2, 50), (50, .ireturn, 1, 51), (51, .aload_n 0, 1, 52), (52, .getfield 9, 3, 55), (55, .iconst 0, 1, 56), (56, .invokevirtual 35, 3, 59), (59, .istore 7, 2, 61), (61, .aload_n 0, 1, 62), (62, .iload_n 1, 1, 63), (63, .iload 7, 2, 65), (65, .iload 4, 2, 67), (67, .invokevirtual 71, 3, 70), (70, .aload_n 0, 1, 71), (71, .iload 7, 2, 73), (73, .iload_n 2, 1, 74), (74, .invokevirtual 82, 3, 77), (77, .iload_n 3, 1, 78), (78, .if_icmp .ge 6, 3, 81), (81, .bipush (-2), 2, 83), (83, .ireturn, 1, 84), (84, .iconst 0, 1, 85), (85, .istore 8, 2, 87), (87, .iload 4, 2, 89), (89, .istore 6, 2, 91), (91, .iconst 0, 1, 92), (92, .istore 9, 2, 94), (94, .iload 9, 2, 96), (96, .sipush 2000, 3, 99), (99, .if_icmp .ge 58, 3, 102), (102, .iload 8, 2, 104), (104, .iload 6, 2, 106), (106, .if_icmp .ge 51, 3, 109), (109, .iload 8, 2, 111), (111, .iload 6, 2, 113), (113, .iadd, 1, 114), (114, .iconst 2, 1, 115), (115, .idiv, 1, 116), (116, .istore 10, 2, 118), (118, .aload_n 0, 1, 119), (119, .iload_n 1, 1, 120), (120, .iload 7, 2, 122), (122, .iload 10, 2, 124), (124, .invokevirtual 71, 3, 127), (127, .aload_n 0, 1, 128), (128, .iload 7, 2, 130), (130, .iload_n 2, 1, 131), (131, .invokevirtual 82, 3, 134), (134, .iload_n 3, 1, 135), (135, .if_icmp .lt 10, 3, 138), (138, .iload 10, 2, 140), (140, .istore 6, 2, 142), (142, .goto 9, 3, 145), (145, .iload 10, 2, 147), (147, .iconst 1, 1, 148), (148, .iadd, 1, 149), (149, .istore 8, 2, 151), (151, .iinc 9 1, 3, 154), (154, .goto (-60), 3, 157), (157, .iload 5, 2, 159), (159, .ifCond .lt 27, 3, 162), (162, .iload 5, 2, 164), (164, .aload_n 0, 1, 165), (165, .getfield 24, 3, 168), (168, .arraylength, 1, 169), (169, .if_icmp .ge 17, 3, 172), (172, .aload_n 0, 1, 173), (173, .getfield 24, 3, 176), (176, .iload 5, 2, 178), (178, .iload 6, 2, 180), (180, .iastore, 1, 181), (181, .aload_n 0, 1, 182), (182, .iconst 1, 1, 183), (183, .putfield 28, 3, 186), (186, .iload 6, 2, 188), (188, .ireturn, 1, 189)]
theorem jd_Fitter_leastFrom : qm_D prog_2_method_8_code jl_Fitter_leastFrom := qm_D_of (by decide +kernel)
noncomputable def jf_Fitter_leastFrom (this : Nat) (p1 : Int32) (p2 : Int32) (p3 : Int32) (p4 : Int32) : qm_M Int32 :=
  mB (jf_Fitter_slotOf this p1 p2 p3) fun x1 =>
  mB (α := Int32) (
    if ¬ x1 = (-1) then
      mB (jf_Top_at (qm_rf this 8) x1) fun x3 =>
      mP x3
    else
      mP (-1)) fun s2 =>
  if s2 = (-1) then
    mB (jf_Run_setting (qm_rf this 0) 0) fun x4 =>
    mB (jf_Fitter_measure this p1 x4 p4) fun _ =>
    mB (jf_Fitter_bearsAt this x4 p2) fun x5 =>
    if p3 ≤ x5 then
      mB (α := Int32) (
        mW (S := Int32 × Int32 × Int32) (α := Int32) (fun s7 =>
          if 2000 ≤ s7.2.2 then
            mP (Sum.inr s7.1)
          else
            if s7.1 ≤ s7.2.1 then
              mP (Sum.inr s7.1)
            else
              mB (mDv (s7.2.1 + s7.1) 2) fun x8 =>
              mB (jf_Fitter_measure this p1 x4 x8) fun _ =>
              mB (jf_Fitter_bearsAt this x4 p2) fun x9 =>
              mB (α := Int32 × Int32) (
                if x9 < p3 then
                  mB (mP (x8 + 1)) fun x11 =>
                  mP (s7.1, x11)
                else
                  mP (x8, s7.2.1)) fun s10 =>
              mB (mP (s7.2.2 + 1)) fun x12 =>
              mP (Sum.inl (s10.1, s10.2, x12))) (p4, 0, 0)) fun s6 =>
      if x1 < 0 then
        mP s6
      else
        if (Int32.ofNat (qm_kd (qm_rf this 8)).2) ≤ x1 then
          mP s6
        else
          mB (mSt (qm_rf this 8) x1 s6) fun _ =>
          mB (mPz this 9 1) fun _ =>
          mP s6
    else
      mP (-2)
  else
    if p4 < s2 then
      mP (-2)
    else
      mP s2
set_option maxRecDepth 20000 in
set_option maxHeartbeats 4000000 in
theorem jb_Fitter_leastFrom {X : qm_X} (hX : qm_ok X qr_Fitter prog_2_method_8_code 11 3 79 jl_Fitter_leastFrom) {r0 : Int32} {σ0 : qm_Mem} (hR : qm_RI X r0 σ0 .int) (this : Nat) (p1 : Int32) (p2 : Int32) (p3 : Int32) (p4 : Int32) (hthis : (qm_kd this).1 = 10) : qm_B X (jf_Fitter_leastFrom this p1 p2 p3 p4) 0 [some (.ref (qx_ad X this)), some (.int p1), some (.int p2), some (.int p3), some (.int p4), none, none, none, none, none, none] [] (fun r σ1 => r = r0 ∧ σ1 = σ0) := by
  unfold jf_Fitter_leastFrom
  refine qb_aload_n hX 0 rfl rfl ?_
  refine qb_iload_n hX 1 rfl rfl ?_
  refine qb_iload_n hX 2 rfl rfl ?_
  refine qb_iload_n hX 3 rfl rfl ?_
  refine qb_callI hX 4 rfl cv_Fitter_89 (jm_Fitter_slotOf (qk_GI hX) this p1 p2 p3 hthis ) (ci := 0) hthis ⟨rfl, rfl, rfl, by decide, by decide⟩ rfl (by exact Nat.le_of_ble_eq_true rfl) (fun x1 => ?_)
  refine qb_istore hX 5 ([some (.ref (qx_ad X this)), some (.int p1), some (.int p2), some (.int p3), some (.int p4), some (.int x1), none, none, none, none, none]) rfl (by decide) rfl ?_
  refine qb_iload hX 6 rfl rfl ?_
  refine qb_iconst hX 7 (-1) rfl (by decide) ?_
  refine qb_join 28 (fun s2 => [some (.ref (qx_ad X this)), some (.int p1), some (.int p2), some (.int p3), some (.int p4), some (.int x1), none, none, none, none, none]) (fun s2 => [.int s2]) ?_ ?_
  ·
    refine qb_icne hX 8 19 rfl (by decide) ?_ ?_
    ·
      refine qb_aload_n hX 11 rfl rfl ?_
      refine qb_getR hX 12 rfl fl_Fitter_24 hthis rfl ?_
      refine qb_iload hX 13 rfl rfl ?_
      refine qb_calNI hX 14 rfl cv_Fitter_78 (jm_Top_at (qk_GI hX) (qm_rf this 8) x1 (kf_Fitter_8 hthis)) ⟨rfl, by decide, by decide⟩ rfl (by exact Nat.le_of_ble_eq_true rfl) (fun x3 => ?_)
      exact qb_exit (fun σ h => qj_wk (ρ' := [some (.ref (qx_ad X this)), some (.int p1), some (.int p2), some (.int p3), some (.int p4), some (.int x1), none, none, none, none, none]) (qw_s (qw_s (qw_s (qw_s (qw_s (qw_s (qw_n (qw_n (qw_n (qw_n (qw_n (qw_0)))))))))))) h)
    ·
      refine qb_iconst hX 9 (-1) rfl (by decide) ?_
      exact qb_exit (fun σ h => qj_goto hX 10 rfl (by decide) (qj_wk (ρ' := [some (.ref (qx_ad X this)), some (.int p1), some (.int p2), some (.int p3), some (.int p4), some (.int x1), none, none, none, none, none]) (qw_s (qw_s (qw_s (qw_s (qw_s (qw_s (qw_n (qw_n (qw_n (qw_n (qw_n (qw_0)))))))))))) h))
  · intro s2
    refine qb_istore hX 15 ([some (.ref (qx_ad X this)), some (.int p1), some (.int p2), some (.int p3), some (.int p4), some (.int x1), some (.int s2), none, none, none, none]) rfl (by decide) rfl ?_
    refine qb_iload hX 16 rfl rfl ?_
    refine qb_iconst hX 17 (-1) rfl (by decide) ?_
    refine qb_iceq hX 18 51 rfl (by decide) ?_ ?_
    ·
      refine qb_aload_n hX 26 rfl rfl ?_
      refine qb_getR hX 27 rfl fl_Fitter_9 hthis rfl ?_
      refine qb_iconst hX 28 0 rfl (by decide) ?_
      refine qb_callI hX 29 rfl cv_Fitter_35 (jm_Run_setting (qk_GI hX) (qm_rf this 0) 0 (kf_Fitter_0 hthis) ) (ci := 4) (kf_Fitter_0 hthis) ⟨rfl, rfl, rfl, by decide, by decide⟩ rfl (by exact Nat.le_of_ble_eq_true rfl) (fun x4 => ?_)
      refine qb_istore hX 30 ([some (.ref (qx_ad X this)), some (.int p1), some (.int p2), some (.int p3), some (.int p4), some (.int x1), some (.int s2), some (.int x4), none, none, none]) rfl (by decide) rfl ?_
      refine qb_aload_n hX 31 rfl rfl ?_
      refine qb_iload_n hX 32 rfl rfl ?_
      refine qb_iload hX 33 rfl rfl ?_
      refine qb_iload hX 34 rfl rfl ?_
      refine qb_callV hX 35 rfl cv_Fitter_71 (jm_Fitter_measure (qk_GI hX) this p1 x4 p4 hthis ) (ci := 0) hthis ⟨rfl, rfl, rfl, by decide, by decide⟩ rfl (by exact Nat.le_of_ble_eq_true rfl) ?_
      refine qb_aload_n hX 36 rfl rfl ?_
      refine qb_iload hX 37 rfl rfl ?_
      refine qb_iload_n hX 38 rfl rfl ?_
      refine qb_callI hX 39 rfl cv_Fitter_82 (jm_Fitter_bearsAt (qk_GI hX) this x4 p2 hthis ) (ci := 0) hthis ⟨rfl, rfl, rfl, by decide, by decide⟩ rfl (by exact Nat.le_of_ble_eq_true rfl) (fun x5 => ?_)
      refine qb_iload_n hX 40 rfl rfl ?_
      refine qb_icge hX 41 84 rfl (by decide) ?_ ?_
      ·
        refine qb_iconst hX 44 0 rfl (by decide) ?_
        refine qb_istore hX 45 ([some (.ref (qx_ad X this)), some (.int p1), some (.int p2), some (.int p3), some (.int p4), some (.int x1), some (.int s2), some (.int x4), some (.int 0), none, none]) rfl (by decide) rfl ?_
        refine qb_iload hX 46 rfl rfl ?_
        refine qb_istore hX 47 ([some (.ref (qx_ad X this)), some (.int p1), some (.int p2), some (.int p3), some (.int p4), some (.int x1), some (.int p4), some (.int x4), some (.int 0), none, none]) rfl (by decide) rfl ?_
        refine qb_iconst hX 48 0 rfl (by decide) ?_
        refine qb_istore hX 49 ([some (.ref (qx_ad X this)), some (.int p1), some (.int p2), some (.int p3), some (.int p4), some (.int x1), some (.int p4), some (.int x4), some (.int 0), some (.int 0), none]) rfl (by decide) rfl ?_
        refine qb_join 157 (fun s6 => [some (.ref (qx_ad X this)), none, none, none, none, some (.int x1), some (.int s6), none, none, none, none]) (fun s6 => []) ?_ ?_
        ·
          refine qb_loopw ((p4, 0, 0)) (fun s7 => [some (.ref (qx_ad X this)), some (.int p1), some (.int p2), some (.int p3), none, some (.int x1), some (.int s7.1), some (.int x4), some (.int s7.2.1), some (.int s7.2.2), none]) (qw_s (qw_s (qw_s (qw_s (qw_n (qw_s (qw_s (qw_s (qw_s (qw_s (qw_n (qw_0)))))))))))) (fun s7 => ?_)
          refine qb_iload hX 50 rfl rfl ?_
          refine qb_sipush hX 51 2000 rfl (by decide) ?_
          refine qb_icge hX 52 157 rfl (by decide) ?_ ?_
          ·
            exact qb_exit (fun σ h => qj_wk (ρ' := [some (.ref (qx_ad X this)), none, none, none, none, some (.int x1), some (.int s7.1), none, none, none, none]) (qw_s (qw_n (qw_n (qw_n (qw_n (qw_s (qw_s (qw_n (qw_n (qw_n (qw_n (qw_0)))))))))))) h)
          ·
            refine qb_iload hX 53 rfl rfl ?_
            refine qb_iload hX 54 rfl rfl ?_
            refine qb_icge hX 55 157 rfl (by decide) ?_ ?_
            ·
              exact qb_exit (fun σ h => qj_wk (ρ' := [some (.ref (qx_ad X this)), none, none, none, none, some (.int x1), some (.int s7.1), none, none, none, none]) (qw_s (qw_n (qw_n (qw_n (qw_n (qw_s (qw_s (qw_n (qw_n (qw_n (qw_n (qw_0)))))))))))) h)
            ·
              refine qb_iload hX 56 rfl rfl ?_
              refine qb_iload hX 57 rfl rfl ?_
              refine qb_iadd hX 58 rfl ?_
              refine qb_iconst hX 59 2 rfl (by decide) ?_
              refine qb_idiv hX 60 rfl (fun x8 => ?_)
              refine qb_istore hX 61 ([some (.ref (qx_ad X this)), some (.int p1), some (.int p2), some (.int p3), none, some (.int x1), some (.int s7.1), some (.int x4), some (.int s7.2.1), some (.int s7.2.2), some (.int x8)]) rfl (by decide) rfl ?_
              refine qb_aload_n hX 62 rfl rfl ?_
              refine qb_iload_n hX 63 rfl rfl ?_
              refine qb_iload hX 64 rfl rfl ?_
              refine qb_iload hX 65 rfl rfl ?_
              refine qb_callV hX 66 rfl cv_Fitter_71 (jm_Fitter_measure (qk_GI hX) this p1 x4 x8 hthis ) (ci := 0) hthis ⟨rfl, rfl, rfl, by decide, by decide⟩ rfl (by exact Nat.le_of_ble_eq_true rfl) ?_
              refine qb_aload_n hX 67 rfl rfl ?_
              refine qb_iload hX 68 rfl rfl ?_
              refine qb_iload_n hX 69 rfl rfl ?_
              refine qb_callI hX 70 rfl cv_Fitter_82 (jm_Fitter_bearsAt (qk_GI hX) this x4 p2 hthis ) (ci := 0) hthis ⟨rfl, rfl, rfl, by decide, by decide⟩ rfl (by exact Nat.le_of_ble_eq_true rfl) (fun x9 => ?_)
              refine qb_iload_n hX 71 rfl rfl ?_
              refine qb_join 151 (fun s10 => [some (.ref (qx_ad X this)), some (.int p1), some (.int p2), some (.int p3), none, some (.int x1), some (.int s10.1), some (.int x4), some (.int s10.2), some (.int s7.2.2), none]) (fun s10 => []) ?_ ?_
              ·
                refine qb_iclt hX 72 145 rfl (by decide) ?_ ?_
                ·
                  refine qb_iload hX 76 rfl rfl ?_
                  refine qb_iconst hX 77 1 rfl (by decide) ?_
                  refine qb_iadd hX 78 rfl ?_
                  refine qb_istoreL hX 79 (fun x11 => [some (.ref (qx_ad X this)), some (.int p1), some (.int p2), some (.int p3), none, some (.int x1), some (.int s7.1), some (.int x4), some (.int x11), some (.int s7.2.2), some (.int x8)]) rfl (by decide) (fun _ => rfl) (fun x11 => ?_)
                  exact qb_exit (fun σ h => qj_wk (ρ' := [some (.ref (qx_ad X this)), some (.int p1), some (.int p2), some (.int p3), none, some (.int x1), some (.int s7.1), some (.int x4), some (.int x11), some (.int s7.2.2), none]) (qw_s (qw_s (qw_s (qw_s (qw_n (qw_s (qw_s (qw_s (qw_s (qw_s (qw_n (qw_0)))))))))))) h)
                ·
                  refine qb_iload hX 73 rfl rfl ?_
                  refine qb_istore hX 74 ([some (.ref (qx_ad X this)), some (.int p1), some (.int p2), some (.int p3), none, some (.int x1), some (.int x8), some (.int x4), some (.int s7.2.1), some (.int s7.2.2), some (.int x8)]) rfl (by decide) rfl ?_
                  exact qb_exit (fun σ h => qj_goto hX 75 rfl (by decide) (qj_wk (ρ' := [some (.ref (qx_ad X this)), some (.int p1), some (.int p2), some (.int p3), none, some (.int x1), some (.int x8), some (.int x4), some (.int s7.2.1), some (.int s7.2.2), none]) (qw_s (qw_s (qw_s (qw_s (qw_n (qw_s (qw_s (qw_s (qw_s (qw_s (qw_n (qw_0)))))))))))) h))
              · intro s10
                refine qb_iinc hX 80 1 (fun x12 => [some (.ref (qx_ad X this)), some (.int p1), some (.int p2), some (.int p3), none, some (.int x1), some (.int s10.1), some (.int x4), some (.int s10.2), some (.int x12), none]) rfl (by decide) (by decide) rfl (fun _ => rfl) (fun x12 => ?_)
                exact qb_exit (fun σ h => qj_goto hX 81 rfl (by decide) (qj_wk (ρ' := [some (.ref (qx_ad X this)), some (.int p1), some (.int p2), some (.int p3), none, some (.int x1), some (.int s10.1), some (.int x4), some (.int s10.2), some (.int x12), none]) (qw_s (qw_s (qw_s (qw_s (qw_n (qw_s (qw_s (qw_s (qw_s (qw_s (qw_n (qw_0)))))))))))) h))
        · intro s6
          refine qb_iload hX 82 rfl rfl ?_
          refine qb_iflt hX 83 186 rfl (by decide) ?_ ?_
          ·
            refine qb_iload hX 97 rfl rfl ?_
            exact qb_iret hX 98 rfl hR (fun _ h => h)
          ·
            refine qb_iload hX 84 rfl rfl ?_
            refine qb_aload_n hX 85 rfl rfl ?_
            refine qb_getR hX 86 rfl fl_Fitter_24 hthis rfl ?_
            refine qb_alen hX 87 (Int32.ofNat (qm_kd (qm_rf this 8)).2) rfl (Or.inl (kf_Fitter_8 hthis)) rfl ?_
            refine qb_icge hX 88 186 rfl (by decide) ?_ ?_
            ·
              refine qb_iload hX 97 rfl rfl ?_
              exact qb_iret hX 98 rfl hR (fun _ h => h)
            ·
              refine qb_aload_n hX 89 rfl rfl ?_
              refine qb_getR hX 90 rfl fl_Fitter_24 hthis rfl ?_
              refine qb_iload hX 91 rfl rfl ?_
              refine qb_iload hX 92 rfl rfl ?_
              refine qb_iast hX 93 rfl (kf_Fitter_8 hthis) ?_
              refine qb_aload_n hX 94 rfl rfl ?_
              refine qb_iconst hX 95 1 rfl (by decide) ?_
              refine qb_putZ hX 96 rfl fp_Fitter_28 hthis ?_
              refine qb_iload hX 97 rfl rfl ?_
              exact qb_iret hX 98 rfl hR (fun _ h => h)
      ·
        refine qb_bipush hX 42 (-2) rfl (by decide) ?_
        exact qb_iret hX 43 rfl hR (fun _ h => h)
    ·
      refine qb_iload hX 19 rfl rfl ?_
      refine qb_iload hX 20 rfl rfl ?_
      refine qb_icgt hX 21 48 rfl (by decide) ?_ ?_
      ·
        refine qb_bipush hX 24 (-2) rfl (by decide) ?_
        exact qb_iret hX 25 rfl hR (fun _ h => h)
      ·
        refine qb_iload hX 22 rfl rfl ?_
        refine qb_goto hX 23 (tgt := 50) rfl (by decide) ?_
        exact qb_iret hX 25 rfl hR (fun _ h => h)
theorem jm_Fitter_leastFrom {l : Launch} {G : qm_G} (hG : qm_GI G) (this : Nat) (p1 : Int32) (p2 : Int32) (p3 : Int32) (p4 : Int32) (hthis : (qm_kd this).1 = 10) : qm_MI l G jy_Fitter_leastFrom prog_2_method_8_code 11 (some .int) 3 79 [.ref (G.1 this), .int p1, .int p2, .int p3, .int p4] (jf_Fitter_leastFrom this p1 p2 p3 p4) :=
  qm_metI (by decide +kernel) jd_Fitter_leastFrom (fun v hv => by simp only [List.mem_cons, List.not_mem_nil, or_false] at hv; rcases hv with rfl | rfl | rfl | rfl | rfl <;> rfl) (by exact Nat.le_of_ble_eq_true rfl) hG rfl (fun X hl hg hX r0 σ0 hR => by subst hl; subst hg; exact jb_Fitter_leastFrom hX hR this p1 p2 p3 p4 hthis)
def jl_Fitter_leastOf : List qm_I := [(0, .aload_n 0, 1, 1), (1, .iload_n 1, 1, 2), (2, .aload_n 0, 1, 3), (3, .getfield 15, 3, 6), (6, .getfield 75, 3, 9), (9, .iload_n 1, 1, 10), (10, .invokestatic 78, 3, 13), (13, .iconst 0, 1, 14), (14, .sipush 2000, 3, 17), (17, .invokevirtual 85, 3, 20), (20, .ireturn, 1, 21)]
theorem jd_Fitter_leastOf : qm_D prog_2_method_7_code jl_Fitter_leastOf := qm_D_of (by decide +kernel)
noncomputable def jf_Fitter_leastOf (this : Nat) (p1 : Int32) : qm_M Int32 :=
  mB (jf_Top_at (qm_rf (qm_rf this 1) 16) p1) fun x1 =>
  mB (jf_Fitter_leastFrom this p1 x1 0 2000) fun x2 =>
  mP x2
set_option maxRecDepth 20000 in
set_option maxHeartbeats 4000000 in
theorem jb_Fitter_leastOf {X : qm_X} (hX : qm_ok X qr_Fitter prog_2_method_7_code 2 4 109 jl_Fitter_leastOf) {r0 : Int32} {σ0 : qm_Mem} (hR : qm_RI X r0 σ0 .int) (this : Nat) (p1 : Int32) (hthis : (qm_kd this).1 = 10) : qm_B X (jf_Fitter_leastOf this p1) 0 [some (.ref (qx_ad X this)), some (.int p1)] [] (fun r σ1 => r = r0 ∧ σ1 = σ0) := by
  unfold jf_Fitter_leastOf
  refine qb_aload_n hX 0 rfl rfl ?_
  refine qb_iload_n hX 1 rfl rfl ?_
  refine qb_aload_n hX 2 rfl rfl ?_
  refine qb_getR hX 3 rfl fl_Fitter_15 hthis rfl ?_
  refine qb_getR hX 4 rfl fl_Fitter_75 (kf_Fitter_1 hthis) rfl ?_
  refine qb_iload_n hX 5 rfl rfl ?_
  refine qb_calNI hX 6 rfl cv_Fitter_78 (jm_Top_at (qk_GI hX) (qm_rf (qm_rf this 1) 16) p1 (kf_Flow_16 (kf_Fitter_1 hthis))) ⟨rfl, by decide, by decide⟩ rfl (by exact Nat.le_of_ble_eq_true rfl) (fun x1 => ?_)
  refine qb_iconst hX 7 0 rfl (by decide) ?_
  refine qb_sipush hX 8 2000 rfl (by decide) ?_
  refine qb_callI hX 9 rfl cv_Fitter_85 (jm_Fitter_leastFrom (qk_GI hX) this p1 x1 0 2000 hthis ) (ci := 0) hthis ⟨rfl, rfl, rfl, by decide, by decide⟩ rfl (by exact Nat.le_of_ble_eq_true rfl) (fun x2 => ?_)
  exact qb_iret hX 10 rfl hR (fun _ h => h)
theorem jm_Fitter_leastOf {l : Launch} {G : qm_G} (hG : qm_GI G) (this : Nat) (p1 : Int32) (hthis : (qm_kd this).1 = 10) : qm_MI l G jy_Fitter_leastOf prog_2_method_7_code 2 (some .int) 4 109 [.ref (G.1 this), .int p1] (jf_Fitter_leastOf this p1) :=
  qm_metI (by decide +kernel) jd_Fitter_leastOf (fun v hv => by simp only [List.mem_cons, List.not_mem_nil, or_false] at hv; rcases hv with rfl | rfl <;> rfl) (by exact Nat.le_of_ble_eq_true rfl) hG rfl (fun X hl hg hX r0 σ0 hR => by subst hl; subst hg; exact jb_Fitter_leastOf hX hR this p1 hthis)
def jl_Flow_mayEnd : List qm_I := [(0, .iload_n 1, 1, 1), (1, .ifCond .lt 22, 3, 4), (4, .iload_n 1, 1, 5), (5, .bipush 91, 2, 7), (7, .if_icmp .ge 16, 3, 10), (10, .aload_n 0, 1, 11), (11, .getfield 49, 3, 14), (14, .iload_n 1, 1, 15), (15, .baload, 1, 16), (16, .ifCond .eq 7, 3, 19), (19, .iconst 1, 1, 20), (20, .goto 4, 3, 23), (23, .iconst 0, 1, 24), (24, .ireturn, 1, 25)]
theorem jd_Flow_mayEnd : qm_D prog_3_method_9_code jl_Flow_mayEnd := qm_D_of (by decide +kernel)
noncomputable def jf_Flow_mayEnd (this : Nat) (p1 : Int32) : qm_M Int32 :=
  if p1 < 0 then
    mP 0
  else
    if 91 ≤ p1 then
      mP 0
    else
      mB (mLd (qm_rf this 15) p1) fun x1 =>
      if x1 = 0 then
        mP 0
      else
        mP 1
set_option maxRecDepth 20000 in
set_option maxHeartbeats 4000000 in
theorem jb_Flow_mayEnd {X : qm_X} (hX : qm_ok X qr_Flow prog_3_method_9_code 2 0 0 jl_Flow_mayEnd) {r0 : Int32} {σ0 : qm_Mem} (hR : qm_RI X r0 σ0 .boolean) (this : Nat) (p1 : Int32) (hthis : (qm_kd this).1 = 11) : qm_B X (jf_Flow_mayEnd this p1) 0 [some (.ref (qx_ad X this)), some (.int p1)] [] (fun r σ1 => r = r0 ∧ σ1 = σ0) := by
  unfold jf_Flow_mayEnd
  refine qb_iload_n hX 0 rfl rfl ?_
  refine qb_iflt hX 1 23 rfl (by decide) ?_ ?_
  ·
    refine qb_iconst hX 12 0 rfl (by decide) ?_
    exact qb_zret1 hX 13 rfl hR (by decide) (fun _ h => h)
  ·
    refine qb_iload_n hX 2 rfl rfl ?_
    refine qb_bipush hX 3 91 rfl (by decide) ?_
    refine qb_icge hX 4 23 rfl (by decide) ?_ ?_
    ·
      refine qb_iconst hX 12 0 rfl (by decide) ?_
      exact qb_zret1 hX 13 rfl hR (by decide) (fun _ h => h)
    ·
      refine qb_aload_n hX 5 rfl rfl ?_
      refine qb_getR hX 6 rfl fl_Flow_49 hthis rfl ?_
      refine qb_iload_n hX 7 rfl rfl ?_
      refine qb_zald hX 8 rfl (kf_Flow_15 hthis) (fun x1 => ?_)
      refine qb_ifeq hX 9 23 rfl (by decide) ?_ ?_
      ·
        refine qb_iconst hX 12 0 rfl (by decide) ?_
        exact qb_zret1 hX 13 rfl hR (by decide) (fun _ h => h)
      ·
        refine qb_iconst hX 10 1 rfl (by decide) ?_
        refine qb_goto hX 11 (tgt := 24) rfl (by decide) ?_
        exact qb_zret1 hX 13 rfl hR (by decide) (fun _ h => h)
theorem jm_Flow_mayEnd {l : Launch} {G : qm_G} (hG : qm_GI G) (this : Nat) (p1 : Int32) (hthis : (qm_kd this).1 = 11) : qm_MI l G jy_Flow_mayEnd prog_3_method_9_code 2 (some .boolean) 0 0 [.ref (G.1 this), .int p1] (jf_Flow_mayEnd this p1) :=
  qm_metI (by decide +kernel) jd_Flow_mayEnd (fun v hv => by simp only [List.mem_cons, List.not_mem_nil, or_false] at hv; rcases hv with rfl | rfl <;> rfl) (by exact Nat.le_of_ble_eq_true rfl) hG rfl (fun X hl hg hX r0 σ0 hR => by subst hl; subst hg; exact jb_Flow_mayEnd hX hR this p1 hthis)
