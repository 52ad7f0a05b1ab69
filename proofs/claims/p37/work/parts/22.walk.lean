def jl_Past_push : List qm_I := [(0, .aload_n 0, 1, 1), (1, .getfield 18, 3, 4), (4, .ifCond .lt 28, 3, 7), (7, .aload_n 0, 1, 8), (8, .getfield 18, 3, 11), (11, .aload_n 0, 1, 12), (12, .getfield 11, 3, 15), (15, .arraylength, 1, 16), (16, .if_icmp .ge 16, 3, 19), (19, .aload_n 0, 1, 20), (20, .getfield 11, 3, 23), (23, .aload_n 0, 1, 24), (24, .getfield 18, 3, 27), (27, .aaload, 1, 28), (28, .aload_n 1, 1, 29), (29, .invokevirtual 22, 3, 32), (32, .aload_n 0, 1, 33), (33, .aload_n 0, 1, 34), (34, .getfield 18, 3, 37), (37, .iconst 1, 1, 38), (38, .iadd, 1, 39), (39, .bipush 10, 2, 41), (41, .if_icmp .ge 12, 3, 44), (44, .aload_n 0, 1, 45), (45, .getfield 18, 3, 48), (48, .iconst 1, 1, 49), (49, .iadd, 1, 50), (50, .goto 4, 3, 53), (53, .iconst 0, 1, 54), (54, .putfield 18, 3, 57), (57, .aload_n 0, 1, 58), (58, .aload_n 0, 1, 59), (59, .getfield 26, 3, 62), (62, .iconst 1, 1, 63), (63, .iadd, 1, 64), (64, .bipush 10, 2, 66), (66, .invokestatic 29, 3, 69), (69, .putfield 26, 3, 72), (72, .return_, 1, 73)]
theorem jd_Past_push : qm_D prog_4_method_2_code jl_Past_push := qm_D_of (by decide +kernel)
noncomputable def jf_Past_push (this : Nat) (p1 : Nat) : qm_M Unit :=
  mB (mGt this 1) fun x1 =>
  mB (α := Unit) (
    if x1 < 0 then
      mP ()
    else
      mB (mGt this 1) fun x3 =>
      if (Int32.ofNat (qm_kd (qm_rf this 0)).2) ≤ x3 then
        mP ()
      else
        mB (mGt this 1) fun x4 =>
        mB (mLr (qm_rf this 0) x4) fun r5 =>
        mB (jf_Run_copyFrom r5 p1) fun _ =>
        mP ()) fun s2 =>
  mB (mGt this 1) fun x6 =>
  mB (α := Int32) (
    if 10 ≤ (x6 + 1) then
      mP 0
    else
      mB (mGt this 1) fun x8 =>
      mP (x8 + 1)) fun s7 =>
  mB (mPt this 1 s7) fun _ =>
  mB (mGt this 2) fun x9 =>
  mB (jf_Math_min (x9 + 1) 10) fun x10 =>
  mB (mPt this 2 x10) fun _ =>
  mP ()
set_option maxRecDepth 20000 in
set_option maxHeartbeats 4000000 in
theorem jb_Past_push {X : qm_X} (hX : qm_ok X qr_Past prog_4_method_2_code 2 1 22 jl_Past_push) {σ0 : qm_Mem} (hR : qm_RV X σ0) (this : Nat) (p1 : Nat) (hthis : (qm_kd this).1 = 12) (hp1 : (qm_kd p1).1 = 14) : qm_B X (jf_Past_push this p1) 0 [some (.ref (qx_ad X this)), some (.ref (qx_ad X p1))] [] (fun _ σ1 => σ1 = σ0) := by
  unfold jf_Past_push
  refine qb_aload_n hX 0 rfl rfl ?_
  refine qb_get hX 1 rfl fl_Past_18 hthis rfl (fun x1 => ?_)
  refine qb_join 32 (fun s2 => [some (.ref (qx_ad X this)), none]) (fun s2 => []) ?_ ?_
  ·
    refine qb_iflt hX 2 32 rfl (by decide) ?_ ?_
    ·
      exact qb_exit (fun σ h => qj_wk (ρ' := [some (.ref (qx_ad X this)), none]) (qw_s (qw_n (qw_0))) h)
    ·
      refine qb_aload_n hX 3 rfl rfl ?_
      refine qb_get hX 4 rfl fl_Past_18 hthis rfl (fun x3 => ?_)
      refine qb_aload_n hX 5 rfl rfl ?_
      refine qb_getR hX 6 rfl fl_Past_11 hthis rfl ?_
      refine qb_alenR hX 7 (Int32.ofNat (qm_kd (qm_rf this 0)).2) rfl (Or.inr (kf_Past_0 hthis)) rfl ?_
      refine qb_icge hX 8 32 rfl (by decide) ?_ ?_
      ·
        exact qb_exit (fun σ h => qj_wk (ρ' := [some (.ref (qx_ad X this)), none]) (qw_s (qw_n (qw_0))) h)
      ·
        refine qb_aload_n hX 9 rfl rfl ?_
        refine qb_getR hX 10 rfl fl_Past_11 hthis rfl ?_
        refine qb_aload_n hX 11 rfl rfl ?_
        refine qb_get hX 12 rfl fl_Past_18 hthis rfl (fun x4 => ?_)
        refine qb_aald hX 13 rfl (Or.inr (kf_Past_0 hthis)) (ka_5 (kf_Past_0 hthis)) (fun r5 hr5 => ?_)
        refine qb_aload_n hX 14 rfl rfl ?_
        refine qb_callV hX 15 rfl cv_Past_22 (jm_Run_copyFrom (qk_GI hX) r5 p1 hr5 hp1) (ci := 4) hr5 ⟨rfl, rfl, rfl, by decide, by decide⟩ rfl (by exact Nat.le_of_ble_eq_true rfl) ?_
        exact qb_exit (fun σ h => qj_wk (ρ' := [some (.ref (qx_ad X this)), none]) (qw_s (qw_n (qw_0))) h)
  · intro s2
    refine qb_aload_n hX 16 rfl rfl ?_
    refine qb_aload_n hX 17 rfl rfl ?_
    refine qb_get hX 18 rfl fl_Past_18 hthis rfl (fun x6 => ?_)
    refine qb_iconst hX 19 1 rfl (by decide) ?_
    refine qb_iadd hX 20 rfl ?_
    refine qb_bipush hX 21 10 rfl (by decide) ?_
    refine qb_join 54 (fun s7 => [some (.ref (qx_ad X this)), none]) (fun s7 => [.int s7, .ref (qx_ad X this)]) ?_ ?_
    ·
      refine qb_icge hX 22 53 rfl (by decide) ?_ ?_
      ·
        refine qb_iconst hX 28 0 rfl (by decide) ?_
        exact qb_exit (fun σ h => qj_wk (ρ' := [some (.ref (qx_ad X this)), none]) (qw_s (qw_n (qw_0))) h)
      ·
        refine qb_aload_n hX 23 rfl rfl ?_
        refine qb_get hX 24 rfl fl_Past_18 hthis rfl (fun x8 => ?_)
        refine qb_iconst hX 25 1 rfl (by decide) ?_
        refine qb_iadd hX 26 rfl ?_
        exact qb_exit (fun σ h => qj_goto hX 27 rfl (by decide) (qj_wk (ρ' := [some (.ref (qx_ad X this)), none]) (qw_s (qw_n (qw_0))) h))
    · intro s7
      refine qb_put hX 29 rfl fp_Past_18 hthis ?_
      refine qb_aload_n hX 30 rfl rfl ?_
      refine qb_aload_n hX 31 rfl rfl ?_
      refine qb_get hX 32 rfl fl_Past_26 hthis rfl (fun x9 => ?_)
      refine qb_iconst hX 33 1 rfl (by decide) ?_
      refine qb_iadd hX 34 rfl ?_
      refine qb_bipush hX 35 10 rfl (by decide) ?_
      refine qb_mmin hX 36 rfl cv_Past_29 (by decide) (by exact Nat.le_of_ble_eq_true rfl) (fun x10 => ?_)
      refine qb_put hX 37 rfl fp_Past_26 hthis ?_
      exact qb_vret hX 38 rfl hR (fun _ h => h)
theorem jm_Past_push {l : Launch} {G : qm_G} (hG : qm_GI G) (this : Nat) (p1 : Nat) (hthis : (qm_kd this).1 = 12) (hp1 : (qm_kd p1).1 = 14) : qm_MV l G jy_Past_push prog_4_method_2_code 2 1 22 [.ref (G.1 this), .ref (G.1 p1)] (jf_Past_push this p1) :=
  qm_metV (by decide +kernel) jd_Past_push (fun v hv => by simp only [List.mem_cons, List.not_mem_nil, or_false] at hv; rcases hv with rfl | rfl <;> rfl) (by exact Nat.le_of_ble_eq_true rfl) hG (fun X hl hg hX σ0 hR => by subst hl; subst hg; exact jb_Past_push hX hR this p1 hthis hp1)
def jl_Past_pop : List qm_I := [(0, .aload_n 0, 1, 1), (1, .aload_n 0, 1, 2), (2, .getfield 18, 3, 5), (5, .ifCond .le 12, 3, 8), (8, .aload_n 0, 1, 9), (9, .getfield 18, 3, 12), (12, .iconst 1, 1, 13), (13, .isub, 1, 14), (14, .goto 5, 3, 17), (17, .bipush 9, 2, 19), (19, .putfield 18, 3, 22), (22, .aload_n 0, 1, 23), (23, .aload_n 0, 1, 24), (24, .getfield 26, 3, 27), (27, .iconst 1, 1, 28), (28, .isub, 1, 29), (29, .iconst 0, 1, 30), (30, .invokestatic 35, 3, 33), (33, .putfield 26, 3, 36), (36, .aload_n 0, 1, 37), (37, .getfield 18, 3, 40), (40, .aload_n 0, 1, 41), (41, .getfield 11, 3, 44), (44, .arraylength, 1, 45), (45, .if_icmp .ge 16, 3, 48), (48, .aload_n 1, 1, 49), (49, .aload_n 0, 1, 50), (50, .getfield 11, 3, 53), (53, .aload_n 0, 1, 54), (54, .getfield 18, 3, 57), (57, .aaload, 1, 58), (58, .invokevirtual 22, 3, 61), (61, .return_, 1, 62)]
theorem jd_Past_pop : qm_D prog_4_method_3_code jl_Past_pop := qm_D_of (by decide +kernel)
noncomputable def jf_Past_pop (this : Nat) (p1 : Nat) : qm_M Unit :=
  mB (mGt this 1) fun x1 =>
  mB (α := Int32) (
    if x1 ≤ 0 then
      mP 9
    else
      mB (mGt this 1) fun x3 =>
      mP (x3 - 1)) fun s2 =>
  mB (mPt this 1 s2) fun _ =>
  mB (mGt this 2) fun x4 =>
  mB (jf_Math_max (x4 - 1) 0) fun x5 =>
  mB (mPt this 2 x5) fun _ =>
  mB (mGt this 1) fun x6 =>
  if (Int32.ofNat (qm_kd (qm_rf this 0)).2) ≤ x6 then
    mP ()
  else
    mB (mGt this 1) fun x7 =>
    mB (mLr (qm_rf this 0) x7) fun r8 =>
    mB (jf_Run_copyFrom p1 r8) fun _ =>
    mP ()
set_option maxRecDepth 20000 in
set_option maxHeartbeats 4000000 in
theorem jb_Past_pop {X : qm_X} (hX : qm_ok X qr_Past prog_4_method_3_code 2 1 22 jl_Past_pop) {σ0 : qm_Mem} (hR : qm_RV X σ0) (this : Nat) (p1 : Nat) (hthis : (qm_kd this).1 = 12) (hp1 : (qm_kd p1).1 = 14) : qm_B X (jf_Past_pop this p1) 0 [some (.ref (qx_ad X this)), some (.ref (qx_ad X p1))] [] (fun _ σ1 => σ1 = σ0) := by
  unfold jf_Past_pop
  refine qb_aload_n hX 0 rfl rfl ?_
  refine qb_aload_n hX 1 rfl rfl ?_
  refine qb_get hX 2 rfl fl_Past_18 hthis rfl (fun x1 => ?_)
  refine qb_join 19 (fun s2 => [some (.ref (qx_ad X this)), some (.ref (qx_ad X p1))]) (fun s2 => [.int s2, .ref (qx_ad X this)]) ?_ ?_
  ·
    refine qb_ifle hX 3 17 rfl (by decide) ?_ ?_
    ·
      refine qb_bipush hX 9 9 rfl (by decide) ?_
      exact qb_exit (fun σ h => qj_wk (ρ' := [some (.ref (qx_ad X this)), some (.ref (qx_ad X p1))]) (qw_s (qw_s (qw_0))) h)
    ·
      refine qb_aload_n hX 4 rfl rfl ?_
      refine qb_get hX 5 rfl fl_Past_18 hthis rfl (fun x3 => ?_)
      refine qb_iconst hX 6 1 rfl (by decide) ?_
      refine qb_isub hX 7 rfl ?_
      exact qb_exit (fun σ h => qj_goto hX 8 rfl (by decide) (qj_wk (ρ' := [some (.ref (qx_ad X this)), some (.ref (qx_ad X p1))]) (qw_s (qw_s (qw_0))) h))
  · intro s2
    refine qb_put hX 10 rfl fp_Past_18 hthis ?_
    refine qb_aload_n hX 11 rfl rfl ?_
    refine qb_aload_n hX 12 rfl rfl ?_
    refine qb_get hX 13 rfl fl_Past_26 hthis rfl (fun x4 => ?_)
    refine qb_iconst hX 14 1 rfl (by decide) ?_
    refine qb_isub hX 15 rfl ?_
    refine qb_iconst hX 16 0 rfl (by decide) ?_
    refine qb_mmax hX 17 rfl cv_Past_35 (by decide) (by exact Nat.le_of_ble_eq_true rfl) (fun x5 => ?_)
    refine qb_put hX 18 rfl fp_Past_26 hthis ?_
    refine qb_aload_n hX 19 rfl rfl ?_
    refine qb_get hX 20 rfl fl_Past_18 hthis rfl (fun x6 => ?_)
    refine qb_aload_n hX 21 rfl rfl ?_
    refine qb_getR hX 22 rfl fl_Past_11 hthis rfl ?_
    refine qb_alenR hX 23 (Int32.ofNat (qm_kd (qm_rf this 0)).2) rfl (Or.inr (kf_Past_0 hthis)) rfl ?_
    refine qb_icge hX 24 61 rfl (by decide) ?_ ?_
    ·
      exact qb_vret hX 32 rfl hR (fun _ h => h)
    ·
      refine qb_aload_n hX 25 rfl rfl ?_
      refine qb_aload_n hX 26 rfl rfl ?_
      refine qb_getR hX 27 rfl fl_Past_11 hthis rfl ?_
      refine qb_aload_n hX 28 rfl rfl ?_
      refine qb_get hX 29 rfl fl_Past_18 hthis rfl (fun x7 => ?_)
      refine qb_aald hX 30 rfl (Or.inr (kf_Past_0 hthis)) (ka_5 (kf_Past_0 hthis)) (fun r8 hr8 => ?_)
      refine qb_callV hX 31 rfl cv_Past_22 (jm_Run_copyFrom (qk_GI hX) p1 r8 hp1 hr8) (ci := 4) hp1 ⟨rfl, rfl, rfl, by decide, by decide⟩ rfl (by exact Nat.le_of_ble_eq_true rfl) ?_
      exact qb_vret hX 32 rfl hR (fun _ h => h)
theorem jm_Past_pop {l : Launch} {G : qm_G} (hG : qm_GI G) (this : Nat) (p1 : Nat) (hthis : (qm_kd this).1 = 12) (hp1 : (qm_kd p1).1 = 14) : qm_MV l G jy_Past_pop prog_4_method_3_code 2 1 22 [.ref (G.1 this), .ref (G.1 p1)] (jf_Past_pop this p1) :=
  qm_metV (by decide +kernel) jd_Past_pop (fun v hv => by simp only [List.mem_cons, List.not_mem_nil, or_false] at hv; rcases hv with rfl | rfl <;> rfl) (by exact Nat.le_of_ble_eq_true rfl) hG (fun X hl hg hX σ0 hR => by subst hl; subst hg; exact jb_Past_pop hX hR this p1 hthis hp1)
def jl_Press_lay : List qm_I := [(0, .aload_n 0, 1, 1), (1, .getfield 20, 3, 4), (4, .invokevirtual 55, 3, 7), (7, .aload_n 0, 1, 8), (8, .getfield 29, 3, 11), (11, .invokevirtual 58, 3, 14), (14, .return_, 1, 15)]
theorem jd_Press_lay : qm_D prog_5_method_2_code jl_Press_lay := qm_D_of (by decide +kernel)
noncomputable def jf_Press_lay (this : Nat) : qm_M Unit :=
  mB (jf_Flow_lay (qm_rf this 1)) fun _ =>
  mB (jf_Fitter_forget (qm_rf this 2)) fun _ =>
  mP ()
set_option maxRecDepth 20000 in
set_option maxHeartbeats 4000000 in
theorem jb_Press_lay {X : qm_X} (hX : qm_ok X qr_Press prog_5_method_2_code 1 4 94 jl_Press_lay) {σ0 : qm_Mem} (hR : qm_RV X σ0) (this : Nat) (hthis : (qm_kd this).1 = 13) : qm_B X (jf_Press_lay this) 0 [some (.ref (qx_ad X this))] [] (fun _ σ1 => σ1 = σ0) := by
  unfold jf_Press_lay
  refine qb_aload_n hX 0 rfl rfl ?_
  refine qb_getR hX 1 rfl fl_Press_20 hthis rfl ?_
  refine qb_callV hX 2 rfl cv_Press_55 (jm_Flow_lay (qk_GI hX) (qm_rf this 1)  (kf_Press_1 hthis) ) (ci := 1) (kf_Press_1 hthis) ⟨rfl, rfl, rfl, by decide, by decide⟩ rfl (by exact Nat.le_of_ble_eq_true rfl) ?_
  refine qb_aload_n hX 3 rfl rfl ?_
  refine qb_getR hX 4 rfl fl_Press_29 hthis rfl ?_
  refine qb_callV hX 5 rfl cv_Press_58 (jm_Fitter_forget (qk_GI hX) (qm_rf this 2)  (kf_Press_2 hthis) ) (ci := 0) (kf_Press_2 hthis) ⟨rfl, rfl, rfl, by decide, by decide⟩ rfl (by exact Nat.le_of_ble_eq_true rfl) ?_
  exact qb_vret hX 6 rfl hR (fun _ h => h)
theorem jm_Press_lay {l : Launch} {G : qm_G} (hG : qm_GI G) (this : Nat) (hthis : (qm_kd this).1 = 13) : qm_MV l G jy_Press_lay prog_5_method_2_code 1 4 94 [.ref (G.1 this)] (jf_Press_lay this) :=
  qm_metV (by decide +kernel) jd_Press_lay (fun v hv => by simp only [List.mem_cons, List.not_mem_nil, or_false] at hv; rcases hv with rfl <;> rfl) (by exact Nat.le_of_ble_eq_true rfl) hG (fun X hl hg hX σ0 hR => by subst hl; subst hg; exact jb_Press_lay hX hR this hthis)
def jl_Press_pageIsFree : List qm_I := [(0, .aload_n 0, 1, 1), (1, .getfield 76, 3, 4), (4, .aload_n 0, 1, 5), (5, .getfield 9, 3, 8), (8, .iconst 1, 1, 9), (9, .invokevirtual 70, 3, 12), (12, .if_icmp .ne 7, 3, 15), (15, .iconst 1, 1, 16), (16, .goto 4, 3, 19), (19, .iconst 0, 1, 20), (20, .ireturn, 1, 21)]
theorem jd_Press_pageIsFree : qm_D prog_5_method_7_code jl_Press_pageIsFree := qm_D_of (by decide +kernel)
noncomputable def jf_Press_pageIsFree (this : Nat) : qm_M Int32 :=
  mB (mGt this 6) fun x1 =>
  mB (jf_Run_setting (qm_rf this 0) 1) fun x2 =>
  if ¬ x1 = x2 then
    mP 0
  else
    mP 1
set_option maxRecDepth 20000 in
set_option maxHeartbeats 4000000 in
theorem jb_Press_pageIsFree {X : qm_X} (hX : qm_ok X qr_Press prog_5_method_7_code 1 1 21 jl_Press_pageIsFree) {r0 : Int32} {σ0 : qm_Mem} (hR : qm_RI X r0 σ0 .boolean) (this : Nat) (hthis : (qm_kd this).1 = 13) : qm_B X (jf_Press_pageIsFree this) 0 [some (.ref (qx_ad X this))] [] (fun r σ1 => r = r0 ∧ σ1 = σ0) := by
  unfold jf_Press_pageIsFree
  refine qb_aload_n hX 0 rfl rfl ?_
  refine qb_get hX 1 rfl fl_Press_76 hthis rfl (fun x1 => ?_)
  refine qb_aload_n hX 2 rfl rfl ?_
  refine qb_getR hX 3 rfl fl_Press_9 hthis rfl ?_
  refine qb_iconst hX 4 1 rfl (by decide) ?_
  refine qb_callI hX 5 rfl cv_Press_70 (jm_Run_setting (qk_GI hX) (qm_rf this 0) 1 (kf_Press_0 hthis) ) (ci := 4) (kf_Press_0 hthis) ⟨rfl, rfl, rfl, by decide, by decide⟩ rfl (by exact Nat.le_of_ble_eq_true rfl) (fun x2 => ?_)
  refine qb_icne hX 6 19 rfl (by decide) ?_ ?_
  ·
    refine qb_iconst hX 9 0 rfl (by decide) ?_
    exact qb_zret1 hX 10 rfl hR (by decide) (fun _ h => h)
  ·
    refine qb_iconst hX 7 1 rfl (by decide) ?_
    refine qb_goto hX 8 (tgt := 20) rfl (by decide) ?_
    exact qb_zret1 hX 10 rfl hR (by decide) (fun _ h => h)
theorem jm_Press_pageIsFree {l : Launch} {G : qm_G} (hG : qm_GI G) (this : Nat) (hthis : (qm_kd this).1 = 13) : qm_MI l G jy_Press_pageIsFree prog_5_method_7_code 1 (some .boolean) 1 21 [.ref (G.1 this)] (jf_Press_pageIsFree this) :=
  qm_metI (by decide +kernel) jd_Press_pageIsFree (fun v hv => by simp only [List.mem_cons, List.not_mem_nil, or_false] at hv; rcases hv with rfl <;> rfl) (by exact Nat.le_of_ble_eq_true rfl) hG rfl (fun X hl hg hX r0 σ0 hR => by subst hl; subst hg; exact jb_Press_pageIsFree hX hR this hthis)
def jl_Press_turnPage : List qm_I := [(0, .aload_n 0, 1, 1), (1, .getfield 67, 3, 4), (4, .bipush 39, 2, 6), (6, .if_icmp .lt 14, 3, 9), (9, .aload_n 0, 1, 10), (10, .aload_n 0, 1, 11), (11, .getfield 92, 3, 14), (14, .putfield 51, 3, 17), (17, .goto 25, 3, 20), (20, .aload_n 0, 1, 21), (21, .dup, 1, 22), (22, .getfield 67, 3, 25), (25, .iconst 1, 1, 26), (26, .iadd, 1, 27), (27, .putfield 67, 3, 30), (30, .aload_n 0, 1, 31), (31, .aload_n 0, 1, 32), (32, .getfield 9, 3, 35), (35, .iconst 1, 1, 36), (36, .invokevirtual 70, 3, 39), (39, .putfield 76, 3, 42), (42, .return_, 1, 43)]
theorem jd_Press_turnPage : qm_D prog_5_method_6_code jl_Press_turnPage := qm_D_of (by decide +kernel)
noncomputable def jf_Press_turnPage (this : Nat) : qm_M Unit :=
  mB (mGt this 5) fun x1 =>
  if x1 < 39 then
    mB (mGt this 5) fun x2 =>
    mB (mPt this 5 (x2 + 1)) fun _ =>
    mB (jf_Run_setting (qm_rf this 0) 1) fun x3 =>
    mB (mPt this 6 x3) fun _ =>
    mP ()
  else
    mB (mGt this 7) fun x4 =>
    mB (mPt this 9 x4) fun _ =>
    mP ()
set_option maxRecDepth 20000 in
set_option maxHeartbeats 4000000 in
theorem jb_Press_turnPage {X : qm_X} (hX : qm_ok X qr_Press prog_5_method_6_code 1 1 21 jl_Press_turnPage) {σ0 : qm_Mem} (hR : qm_RV X σ0) (this : Nat) (hthis : (qm_kd this).1 = 13) : qm_B X (jf_Press_turnPage this) 0 [some (.ref (qx_ad X this))] [] (fun _ σ1 => σ1 = σ0) := by
  unfold jf_Press_turnPage
  refine qb_aload_n hX 0 rfl rfl ?_
  refine qb_get hX 1 rfl fl_Press_67 hthis rfl (fun x1 => ?_)
  refine qb_bipush hX 2 39 rfl (by decide) ?_
  refine qb_iclt hX 3 20 rfl (by decide) ?_ ?_
  ·
    refine qb_aload_n hX 9 rfl rfl ?_
    refine qb_dup hX 10 rfl rfl ?_
    refine qb_get hX 11 rfl fl_Press_67 hthis rfl (fun x2 => ?_)
    refine qb_iconst hX 12 1 rfl (by decide) ?_
    refine qb_iadd hX 13 rfl ?_
    refine qb_put hX 14 rfl fp_Press_67 hthis ?_
    refine qb_aload_n hX 15 rfl rfl ?_
    refine qb_aload_n hX 16 rfl rfl ?_
    refine qb_getR hX 17 rfl fl_Press_9 hthis rfl ?_
    refine qb_iconst hX 18 1 rfl (by decide) ?_
    refine qb_callI hX 19 rfl cv_Press_70 (jm_Run_setting (qk_GI hX) (qm_rf this 0) 1 (kf_Press_0 hthis) ) (ci := 4) (kf_Press_0 hthis) ⟨rfl, rfl, rfl, by decide, by decide⟩ rfl (by exact Nat.le_of_ble_eq_true rfl) (fun x3 => ?_)
    refine qb_put hX 20 rfl fp_Press_76 hthis ?_
    exact qb_vret hX 21 rfl hR (fun _ h => h)
  ·
    refine qb_aload_n hX 4 rfl rfl ?_
    refine qb_aload_n hX 5 rfl rfl ?_
    refine qb_get hX 6 rfl fl_Press_92 hthis rfl (fun x4 => ?_)
    refine qb_put hX 7 rfl fp_Press_51 hthis ?_
    refine qb_goto hX 8 (tgt := 42) rfl (by decide) ?_
    exact qb_vret hX 21 rfl hR (fun _ h => h)
theorem jm_Press_turnPage {l : Launch} {G : qm_G} (hG : qm_GI G) (this : Nat) (hthis : (qm_kd this).1 = 13) : qm_MV l G jy_Press_turnPage prog_5_method_6_code 1 1 21 [.ref (G.1 this)] (jf_Press_turnPage this) :=
  qm_metV (by decide +kernel) jd_Press_turnPage (fun v hv => by simp only [List.mem_cons, List.not_mem_nil, or_false] at hv; rcases hv with rfl <;> rfl) (by exact Nat.le_of_ble_eq_true rfl) hG (fun X hl hg hX σ0 hR => by subst hl; subst hg; exact jb_Press_turnPage hX hR this hthis)
def jl_Press_putSpan : List qm_I := [(0, .aload_n 0, 1, 1), (1, .getfield 20, 3, 4), (4, .getfield 112, 3, 7), (7, .iload_n 1, 1, 8), (8, .invokestatic 88, 3, 11), (11, .istore_n 2, 1, 12), (12, .iload_n 2, 1, 13), (13, .aload_n 0, 1, 14), (14, .getfield 9, 3, 17), (17, .bipush 7, 2, 19), (19, .invokevirtual 70, 3, 22), (22, .iadd, 1, 23), (23, .aload_n 0, 1, 24), (24, .getfield 76, 3, 27), (27, .if_icmp .le 14, 3, 30), (30, .aload_n 0, 1, 31), (31, .invokevirtual 115, 3, 34), (34, .ifCond .ne 7, 3, 37), (37, .aload_n 0, 1, 38), (38, .invokevirtual 119, 3, 41), (41, .iload_n 1, 1, 42), (42, .iconst 1, 1, 43), (43, .isub, 1, 44), (44, .istore_n 3, 1, 45), (45, .aload_n 0, 1, 46), (46, .getfield 51, 3, 49), (49, .iconst (-1), 1, 50), (50, .if_icmp .ne 61, 3, 53), (53, .iload_n 3, 1, 54), (54, .ifCond .lt 57, 3, 57), (57, .iload_n 3, 1, 58), (58, .bipush 16, 2, 60), (60, .if_icmp .ge 51, 3, 63), (63, .aload_n 0, 1, 64), (64, .getfield 44, 3, 67), (67, .iload_n 3, 1, 68), (68, .aload_n 0, 1, 69), (69, .getfield 67, 3, 72), (72, .iastore, 1, 73), (73, .aload_n 0, 1, 74), (74, .getfield 48, 3, 77), (77, .iload_n 3, 1, 78), (78, .aload_n 0, 1, 79), (79, .getfield 9, 3, 82), (82, .iconst 1, 1, 83), (83, .invokevirtual 70, 3, 86), (86, .aload_n 0, 1, 87), (87, .getfield 76, 3, 90), (90, .isub, 1, 91), (91, .iastore, 1, 92), (92, .aload_n 0, 1, 93), (93, .iload_n 1, 1, 94), (94, .putfield 79, 3, 97), (97, .aload_n 0, 1, 98), (98, .iconst 0, 1, 99), (99, .aload_n 0, 1, 100), (100, .getfield 76, 3, 103), (103, .iload_n 2, 1, 104), (104, .isub, 1, 105), (105, .invokestatic 33, 3, 108), (108, .putfield 76, 3, 111), (111, .return_, 1, 112)]
theorem jd_Press_putSpan : qm_D prog_5_method_8_code jl_Press_putSpan := qm_D_of (by decide +kernel)
noncomputable def jf_Press_putSpan (this : Nat) (p1 : Int32) : qm_M Unit :=
  mB (jf_Top_at (qm_rf (qm_rf this 1) 18) p1) fun x1 =>
  mB (jf_Run_setting (qm_rf this 0) 7) fun x2 =>
  mB (mGt this 6) fun x3 =>
  mB (α := Unit) (
    if (x1 + x2) ≤ x3 then
      mP ()
    else
      mB (jf_Press_pageIsFree this) fun x5 =>
      if ¬ x5 = 0 then
        mP ()
      else
        mB (jf_Press_turnPage this) fun _ =>
        mP ()) fun s4 =>
  mB (mP (p1 - 1)) fun x6 =>
  mB (mGt this 9) fun x7 =>
  if ¬ x7 = (-1) then
    mP ()
  else
    if x6 < 0 then
      mP ()
    else
      if 16 ≤ x6 then
        mP ()
      else
        mB (mGt this 5) fun x8 =>
        mB (mSt (qm_rf this 11) x6 x8) fun _ =>
        mB (jf_Run_setting (qm_rf this 0) 1) fun x9 =>
        mB (mGt this 6) fun x10 =>
        mB (mSt (qm_rf this 12) x6 (x9 - x10)) fun _ =>
        mB (mPt this 10 p1) fun _ =>
        mB (mGt this 6) fun x11 =>
        mB (jf_Math_max 0 (x11 - x1)) fun x12 =>
        mB (mPt this 6 x12) fun _ =>
        mP ()
set_option maxRecDepth 20000 in
set_option maxHeartbeats 4000000 in
theorem jb_Press_putSpan {X : qm_X} (hX : qm_ok X qr_Press prog_5_method_8_code 4 2 41 jl_Press_putSpan) {σ0 : qm_Mem} (hR : qm_RV X σ0) (this : Nat) (p1 : Int32) (hthis : (qm_kd this).1 = 13) : qm_B X (jf_Press_putSpan this p1) 0 [some (.ref (qx_ad X this)), some (.int p1), none, none] [] (fun _ σ1 => σ1 = σ0) := by
  unfold jf_Press_putSpan
  refine qb_aload_n hX 0 rfl rfl ?_
  refine qb_getR hX 1 rfl fl_Press_20 hthis rfl ?_
  refine qb_getR hX 2 rfl fl_Press_112 (kf_Press_1 hthis) rfl ?_
  refine qb_iload_n hX 3 rfl rfl ?_
  refine qb_calNI hX 4 rfl cv_Press_88 (jm_Top_at (qk_GI hX) (qm_rf (qm_rf this 1) 18) p1 (kf_Flow_18 (kf_Press_1 hthis))) ⟨rfl, by decide, by decide⟩ rfl (by exact Nat.le_of_ble_eq_true rfl) (fun x1 => ?_)
  refine qb_istore_n hX 5 ([some (.ref (qx_ad X this)), some (.int p1), some (.int x1), none]) rfl (by decide) rfl ?_
  refine qb_iload_n hX 6 rfl rfl ?_
  refine qb_aload_n hX 7 rfl rfl ?_
  refine qb_getR hX 8 rfl fl_Press_9 hthis rfl ?_
  refine qb_bipush hX 9 7 rfl (by decide) ?_
  refine qb_callI hX 10 rfl cv_Press_70 (jm_Run_setting (qk_GI hX) (qm_rf this 0) 7 (kf_Press_0 hthis) ) (ci := 4) (kf_Press_0 hthis) ⟨rfl, rfl, rfl, by decide, by decide⟩ rfl (by exact Nat.le_of_ble_eq_true rfl) (fun x2 => ?_)
  refine qb_iadd hX 11 rfl ?_
  refine qb_aload_n hX 12 rfl rfl ?_
  refine qb_get hX 13 rfl fl_Press_76 hthis rfl (fun x3 => ?_)
  refine qb_join 41 (fun s4 => [some (.ref (qx_ad X this)), some (.int p1), some (.int x1), none]) (fun s4 => []) ?_ ?_
  ·
    refine qb_icle hX 14 41 rfl (by decide) ?_ ?_
    ·
      exact qb_exit (fun σ h => qj_wk (ρ' := [some (.ref (qx_ad X this)), some (.int p1), some (.int x1), none]) (qw_s (qw_s (qw_s (qw_n (qw_0))))) h)
    ·
      refine qb_aload_n hX 15 rfl rfl ?_
      refine qb_callI hX 16 rfl cv_Press_115 (jm_Press_pageIsFree (qk_GI hX) this  hthis ) (ci := 3) hthis ⟨rfl, rfl, rfl, by decide, by decide⟩ rfl (by exact Nat.le_of_ble_eq_true rfl) (fun x5 => ?_)
      refine qb_ifne hX 17 41 rfl (by decide) ?_ ?_
      ·
        exact qb_exit (fun σ h => qj_wk (ρ' := [some (.ref (qx_ad X this)), some (.int p1), some (.int x1), none]) (qw_s (qw_s (qw_s (qw_n (qw_0))))) h)
      ·
        refine qb_aload_n hX 18 rfl rfl ?_
        refine qb_callV hX 19 rfl cv_Press_119 (jm_Press_turnPage (qk_GI hX) this  hthis ) (ci := 3) hthis ⟨rfl, rfl, rfl, by decide, by decide⟩ rfl (by exact Nat.le_of_ble_eq_true rfl) ?_
        exact qb_exit (fun σ h => qj_wk (ρ' := [some (.ref (qx_ad X this)), some (.int p1), some (.int x1), none]) (qw_s (qw_s (qw_s (qw_n (qw_0))))) h)
  · intro s4
    refine qb_iload_n hX 20 rfl rfl ?_
    refine qb_iconst hX 21 1 rfl (by decide) ?_
    refine qb_isub hX 22 rfl ?_
    refine qb_istore_nL hX 23 (fun x6 => [some (.ref (qx_ad X this)), some (.int p1), some (.int x1), some (.int x6)]) rfl (by decide) (fun _ => rfl) (fun x6 => ?_)
    refine qb_aload_n hX 24 rfl rfl ?_
    refine qb_get hX 25 rfl fl_Press_51 hthis rfl (fun x7 => ?_)
    refine qb_iconst hX 26 (-1) rfl (by decide) ?_
    refine qb_icne hX 27 111 rfl (by decide) ?_ ?_
    ·
      exact qb_vret hX 61 rfl hR (fun _ h => h)
    ·
      refine qb_iload_n hX 28 rfl rfl ?_
      refine qb_iflt hX 29 111 rfl (by decide) ?_ ?_
      ·
        exact qb_vret hX 61 rfl hR (fun _ h => h)
      ·
        refine qb_iload_n hX 30 rfl rfl ?_
        refine qb_bipush hX 31 16 rfl (by decide) ?_
        refine qb_icge hX 32 111 rfl (by decide) ?_ ?_
        ·
          exact qb_vret hX 61 rfl hR (fun _ h => h)
        ·
          refine qb_aload_n hX 33 rfl rfl ?_
          refine qb_getR hX 34 rfl fl_Press_44 hthis rfl ?_
          refine qb_iload_n hX 35 rfl rfl ?_
          refine qb_aload_n hX 36 rfl rfl ?_
          refine qb_get hX 37 rfl fl_Press_67 hthis rfl (fun x8 => ?_)
          refine qb_iast hX 38 rfl (kf_Press_11 hthis) ?_
          refine qb_aload_n hX 39 rfl rfl ?_
          refine qb_getR hX 40 rfl fl_Press_48 hthis rfl ?_
          refine qb_iload_n hX 41 rfl rfl ?_
          refine qb_aload_n hX 42 rfl rfl ?_
          refine qb_getR hX 43 rfl fl_Press_9 hthis rfl ?_
          refine qb_iconst hX 44 1 rfl (by decide) ?_
          refine qb_callI hX 45 rfl cv_Press_70 (jm_Run_setting (qk_GI hX) (qm_rf this 0) 1 (kf_Press_0 hthis) ) (ci := 4) (kf_Press_0 hthis) ⟨rfl, rfl, rfl, by decide, by decide⟩ rfl (by exact Nat.le_of_ble_eq_true rfl) (fun x9 => ?_)
          refine qb_aload_n hX 46 rfl rfl ?_
          refine qb_get hX 47 rfl fl_Press_76 hthis rfl (fun x10 => ?_)
          refine qb_isub hX 48 rfl ?_
          refine qb_iast hX 49 rfl (kf_Press_12 hthis) ?_
          refine qb_aload_n hX 50 rfl rfl ?_
          refine qb_iload_n hX 51 rfl rfl ?_
          refine qb_put hX 52 rfl fp_Press_79 hthis ?_
          refine qb_aload_n hX 53 rfl rfl ?_
          refine qb_iconst hX 54 0 rfl (by decide) ?_
          refine qb_aload_n hX 55 rfl rfl ?_
          refine qb_get hX 56 rfl fl_Press_76 hthis rfl (fun x11 => ?_)
          refine qb_iload_n hX 57 rfl rfl ?_
          refine qb_isub hX 58 rfl ?_
          refine qb_mmax hX 59 rfl cv_Press_33 (by decide) (by exact Nat.le_of_ble_eq_true rfl) (fun x12 => ?_)
          refine qb_put hX 60 rfl fp_Press_76 hthis ?_
          exact qb_vret hX 61 rfl hR (fun _ h => h)
theorem jm_Press_putSpan {l : Launch} {G : qm_G} (hG : qm_GI G) (this : Nat) (p1 : Int32) (hthis : (qm_kd this).1 = 13) : qm_MV l G jy_Press_putSpan prog_5_method_8_code 4 2 41 [.ref (G.1 this), .int p1] (jf_Press_putSpan this p1) :=
  qm_metV (by decide +kernel) jd_Press_putSpan (fun v hv => by simp only [List.mem_cons, List.not_mem_nil, or_false] at hv; rcases hv with rfl | rfl <;> rfl) (by exact Nat.le_of_ble_eq_true rfl) hG (fun X hl hg hX σ0 hR => by subst hl; subst hg; exact jb_Press_putSpan hX hR this p1 hthis)
def jl_Press_putColumn : List qm_I := [(0, .aload_n 0, 1, 1), (1, .getfield 20, 3, 4), (4, .aload_n 0, 1, 5), (5, .getfield 92, 3, 8), (8, .iload_n 3, 1, 9), (9, .invokevirtual 146, 3, 12), (12, .istore 6, 2, 14), (14, .iconst 0, 1, 15), (15, .aload_n 0, 1, 16), (16, .getfield 29, 3, 19), (19, .aload_n 0, 1, 20), (20, .getfield 92, 3, 23), (23, .iload_n 3, 1, 24), (24, .aload_n 0, 1, 25), (25, .getfield 95, 3, 28), (28, .iload 4, 2, 30), (30, .invokevirtual 149, 3, 33), (33, .invokestatic 33, 3, 36), (36, .istore 7, 2, 38), (38, .iload 6, 2, 40), (40, .aload_n 0, 1, 41), (41, .getfield 95, 3, 44), (44, .iadd, 1, 45), (45, .iload 7, 2, 47), (47, .isub, 1, 48), (48, .istore 8, 2, 50), (50, .iload_n 3, 1, 51), (51, .aload_n 0, 1, 52), (52, .getfield 92, 3, 55), (55, .if_icmp .gt 8, 3, 58), (58, .iload 8, 2, 60), (60, .ifCond .le 7, 3, 63), (63, .iconst 1, 1, 64), (64, .goto 4, 3, 67), (67, .iconst 0, 1, 68), (68, .istore 9, 2, 70), (70, .aload_n 0, 1, 71), (71, .getfield 64, 3, 74), (74, .ifCond .lt 136, 3, 77), (77, .aload_n 0, 1, 78), (78, .getfield 64, 3, 81), (81, .aload_n 0, 1, 82), (82, .getfield 41, 3, 85), (85, .arraylength, 1, 86), (86, .if_icmp .ge 124, 3, 89), (89, .aload_n 0, 1, 90), (90, .getfield 41, 3, 93), (93, .aload_n 0, 1, 94), (94, .getfield 64, 3, 97), (97, .aaload, 1, 98), (98, .astore 10, 2, 100), (100, .aload 10, 2, 102), (102, .iconst 0, 1, 103), (103, .aload_n 0, 1, 104), (104, .getfield 67, 3, 107), (107, .iastore, 1, 108), (108, .aload 10, 2, 110), (110, .iconst 1, 1, 111), (111, .iload_n 2, 1, 112), (112, .iastore, 1, 113), (113, .aload 10, 2, 115), (115, .iconst 2, 1, 116), (116, .iload_n 1, 1, 117), (117, .iastore, 1, 118), (118, .aload 10, 2, 120), (120, .iconst 3, 1, 121), (121, .aload_n 0, 1, 122), (122, .getfield 92, 3, 125), (125, .iastore, 1, 126), (126, .aload 10, 2, 128), (128, .iconst 4, 1, 129), (129, .iload_n 3, 1, 130), (130, .iastore, 1, 131), (131, .aload 10, 2, 133), (133, .iconst 5, 1, 134), (134, .aload_n 0, 1, 135), (135, .getfield 20, 3, 138), (138, .aload_n 0, 1, 139), (139, .getfield 92, 3, 142), (142, .iload_n 3, 1, 143), (143, .invokevirtual 152, 3, 146), (146, .iastore, 1, 147), (147, .aload 10, 2, 149), (149, .bipush 6, 2, 151), (151, .aload_n 0, 1, 152), (152, .getfield 95, 3, 155), (155, .iastore, 1, 156), (156, .aload 10, 2, 158), (158, .bipush 7, 2, 160), (160, .iload 6, 2, 162), (162, .iastore, 1, 163), (163, .aload 10, 2, 165), (165, .bipush 8, 2, 167), (167, .iload 8, 2, 169), (169, .iastore, 1, 170), (170, .aload 10, 2, 172), (172, .bipush 9, 2, 174), (174, .aload_n 0, 1, 175), (175, .getfield 9, 3, 178), (178, .iconst 1, 1, 179), (179, .invokevirtual 70, 3, 182), (182, .aload_n 0, 1, 183), (183, .getfield 76, 3, 186), (186, .isub, 1, 187), (187, .iastore, 1, 188), (188, .aload 10, 2, 190), (190, .bipush 10, 2, 192), (192, .iload 4, 2, 194), (194, .iastore, 1, 195), (195, .aload 10, 2, 197), (197, .bipush 11, 2, 199), (199, .iload 5, 2, 201), (201, .ifCond .eq 7, 3, 204), (204, .iconst 1, 1, 205), (205, .goto 4, 3, 208), (208, .iconst 0, 1, 209), (209, .iastore, 1, 210), (210, .aload_n 0, 1, 211), (211, .dup, 1, 212), (212, .getfield 64, 3, 215), (215, .iconst 1, 1, 216), (216, .iadd, 1, 217), (217, .putfield 64, 3, 220), (220, .aload_n 0, 1, 221), (221, .iload_n 3, 1, 222), (222, .putfield 92, 3, 225), (225, .aload_n 0, 1, 226), (226, .iload 7, 2, 228), (228, .putfield 95, 3, 231), (231, .iload 9, 2, 233), (233, .ireturn, 1, 234)]
theorem jd_Press_putColumn : qm_D prog_5_method_12_code jl_Press_putColumn := qm_D_of (by decide +kernel)
noncomputable def jf_Press_putColumn (this : Nat) (p1 : Int32) (p2 : Int32) (p3 : Int32) (p4 : Int32) (p5 : Int32) : qm_M Int32 :=
  mB (mGt this 7) fun x1 =>
  mB (jf_Flow_ownLines (qm_rf this 1) x1 p3) fun x2 =>
  mB (mGt this 7) fun x3 =>
  mB (mGt this 8) fun x4 =>
  mB (jf_Fitter_leftOver (qm_rf this 2) x3 p3 x4 p4) fun x5 =>
  mB (jf_Math_max 0 x5) fun x6 =>
  mB (mGt this 8) fun x7 =>
  mB (mP ((x2 + x7) - x6)) fun x8 =>
  mB (mGt this 7) fun x9 =>
  mB (α := Int32) (
    mB (α := (Unit ⊕ Int32)) (
      if x9 < p3 then
        mP (Sum.inl ())
      else
        if x8 ≤ 0 then
          mP (Sum.inr 0)
        else
          mP (Sum.inl ())) (Sum.elim (fun s11 =>
      mP 1) mP)) fun s10 =>
  mB (mGt this 4) fun x12 =>
  mB (α := Unit) (
    if x12 < 0 then
      mP ()
    else
      mB (mGt this 4) fun x14 =>
      if (Int32.ofNat (qm_kd (qm_rf this 3)).2) ≤ x14 then
        mP ()
      else
        mB (mGt this 4) fun x15 =>
        mB (mLr (qm_rf this 3) x15) fun r16 =>
        mB (mGt this 5) fun x17 =>
        mB (mSt r16 0 x17) fun _ =>
        mB (mSt r16 1 p2) fun _ =>
        mB (mSt r16 2 p1) fun _ =>
        mB (mGt this 7) fun x18 =>
        mB (mSt r16 3 x18) fun _ =>
        mB (mSt r16 4 p3) fun _ =>
        mB (mGt this 7) fun x19 =>
        mB (jf_Flow_text (qm_rf this 1) x19 p3) fun x20 =>
        mB (mSt r16 5 x20) fun _ =>
        mB (mGt this 8) fun x21 =>
        mB (mSt r16 6 x21) fun _ =>
        mB (mSt r16 7 x2) fun _ =>
        mB (mSt r16 8 x8) fun _ =>
        mB (jf_Run_setting (qm_rf this 0) 1) fun x22 =>
        mB (mGt this 6) fun x23 =>
        mB (mSt r16 9 (x22 - x23)) fun _ =>
        mB (mSt r16 10 p4) fun _ =>
        mB (α := Int32) (
          if p5 = 0 then
            mP 0
          else
            mP 1) fun s24 =>
        mB (mSt r16 11 s24) fun _ =>
        mP ()) fun s13 =>
  mB (mGt this 4) fun x25 =>
  mB (mPt this 4 (x25 + 1)) fun _ =>
  mB (mPt this 7 p3) fun _ =>
  mB (mPt this 8 x6) fun _ =>
  mB (mZ s10) fun x26 => mP x26
set_option maxRecDepth 20000 in
set_option maxHeartbeats 4000000 in
theorem jb_Press_putColumn {X : qm_X} (hX : qm_ok X qr_Press prog_5_method_12_code 11 2 50 jl_Press_putColumn) {r0 : Int32} {σ0 : qm_Mem} (hR : qm_RI X r0 σ0 .boolean) (this : Nat) (p1 : Int32) (p2 : Int32) (p3 : Int32) (p4 : Int32) (p5 : Int32) (hthis : (qm_kd this).1 = 13) : qm_B X (jf_Press_putColumn this p1 p2 p3 p4 p5) 0 [some (.ref (qx_ad X this)), some (.int p1), some (.int p2), some (.int p3), some (.int p4), some (.int p5), none, none, none, none, none] [] (fun r σ1 => r = r0 ∧ σ1 = σ0) := by
  unfold jf_Press_putColumn
  refine qb_aload_n hX 0 rfl rfl ?_
  refine qb_getR hX 1 rfl fl_Press_20 hthis rfl ?_
  refine qb_aload_n hX 2 rfl rfl ?_
  refine qb_get hX 3 rfl fl_Press_92 hthis rfl (fun x1 => ?_)
  refine qb_iload_n hX 4 rfl rfl ?_
  refine qb_callI hX 5 rfl cv_Press_146 (jm_Flow_ownLines (qk_GI hX) (qm_rf this 1) x1 p3 (kf_Press_1 hthis) ) (ci := 1) (kf_Press_1 hthis) ⟨rfl, rfl, rfl, by decide, by decide⟩ rfl (by exact Nat.le_of_ble_eq_true rfl) (fun x2 => ?_)
  refine qb_istore hX 6 ([some (.ref (qx_ad X this)), some (.int p1), some (.int p2), some (.int p3), some (.int p4), some (.int p5), some (.int x2), none, none, none, none]) rfl (by decide) rfl ?_
  refine qb_iconst hX 7 0 rfl (by decide) ?_
  refine qb_aload_n hX 8 rfl rfl ?_
  refine qb_getR hX 9 rfl fl_Press_29 hthis rfl ?_
  refine qb_aload_n hX 10 rfl rfl ?_
  refine qb_get hX 11 rfl fl_Press_92 hthis rfl (fun x3 => ?_)
  refine qb_iload_n hX 12 rfl rfl ?_
  refine qb_aload_n hX 13 rfl rfl ?_
  refine qb_get hX 14 rfl fl_Press_95 hthis rfl (fun x4 => ?_)
  refine qb_iload hX 15 rfl rfl ?_
  refine qb_callI hX 16 rfl cv_Press_149 (jm_Fitter_leftOver (qk_GI hX) (qm_rf this 2) x3 p3 x4 p4 (kf_Press_2 hthis) ) (ci := 0) (kf_Press_2 hthis) ⟨rfl, rfl, rfl, by decide, by decide⟩ rfl (by exact Nat.le_of_ble_eq_true rfl) (fun x5 => ?_)
  refine qb_mmax hX 17 rfl cv_Press_33 (by decide) (by exact Nat.le_of_ble_eq_true rfl) (fun x6 => ?_)
  refine qb_istore hX 18 ([some (.ref (qx_ad X this)), some (.int p1), some (.int p2), some (.int p3), some (.int p4), some (.int p5), some (.int x2), some (.int x6), none, none, none]) rfl (by decide) rfl ?_
  refine qb_iload hX 19 rfl rfl ?_
  refine qb_aload_n hX 20 rfl rfl ?_
  refine qb_get hX 21 rfl fl_Press_95 hthis rfl (fun x7 => ?_)
  refine qb_iadd hX 22 rfl ?_
  refine qb_iload hX 23 rfl rfl ?_
  refine qb_isub hX 24 rfl ?_
  refine qb_istoreL hX 25 (fun x8 => [some (.ref (qx_ad X this)), some (.int p1), some (.int p2), some (.int p3), some (.int p4), some (.int p5), some (.int x2), some (.int x6), some (.int x8), none, none]) rfl (by decide) (fun _ => rfl) (fun x8 => ?_)
  refine qb_iload_n hX 26 rfl rfl ?_
  refine qb_aload_n hX 27 rfl rfl ?_
  refine qb_get hX 28 rfl fl_Press_92 hthis rfl (fun x9 => ?_)
  refine qb_join 68 (fun s10 => [some (.ref (qx_ad X this)), some (.int p1), some (.int p2), some (.int p3), some (.int p4), some (.int p5), some (.int x2), some (.int x6), some (.int x8), none, none]) (fun s10 => [.int s10]) ?_ ?_
  ·
    refine qb_join2 63 (fun s11 => [some (.ref (qx_ad X this)), some (.int p1), some (.int p2), some (.int p3), some (.int p4), some (.int p5), some (.int x2), some (.int x6), some (.int x8), none, none]) (fun s11 => []) ?_ ?_
    ·
      refine qb_icgt hX 29 63 rfl (by decide) ?_ ?_
      ·
        exact qb_exit (fun σ h => qj_wk (ρ' := [some (.ref (qx_ad X this)), some (.int p1), some (.int p2), some (.int p3), some (.int p4), some (.int p5), some (.int x2), some (.int x6), some (.int x8), none, none]) (qw_s (qw_s (qw_s (qw_s (qw_s (qw_s (qw_s (qw_s (qw_s (qw_n (qw_n (qw_0)))))))))))) h)
      ·
        refine qb_iload hX 30 rfl rfl ?_
        refine qb_ifle hX 31 67 rfl (by decide) ?_ ?_
        ·
          refine qb_iconst hX 34 0 rfl (by decide) ?_
          exact qb_exit (fun σ h => qj_wk (ρ' := [some (.ref (qx_ad X this)), some (.int p1), some (.int p2), some (.int p3), some (.int p4), some (.int p5), some (.int x2), some (.int x6), some (.int x8), none, none]) (qw_s (qw_s (qw_s (qw_s (qw_s (qw_s (qw_s (qw_s (qw_s (qw_n (qw_n (qw_0)))))))))))) h)
        ·
          exact qb_exit (fun σ h => qj_wk (ρ' := [some (.ref (qx_ad X this)), some (.int p1), some (.int p2), some (.int p3), some (.int p4), some (.int p5), some (.int x2), some (.int x6), some (.int x8), none, none]) (qw_s (qw_s (qw_s (qw_s (qw_s (qw_s (qw_s (qw_s (qw_s (qw_n (qw_n (qw_0)))))))))))) h)
    · intro s11
      refine qb_iconst hX 32 1 rfl (by decide) ?_
      exact qb_exit (fun σ h => qj_goto hX 33 rfl (by decide) (qj_wk (ρ' := [some (.ref (qx_ad X this)), some (.int p1), some (.int p2), some (.int p3), some (.int p4), some (.int p5), some (.int x2), some (.int x6), some (.int x8), none, none]) (qw_s (qw_s (qw_s (qw_s (qw_s (qw_s (qw_s (qw_s (qw_s (qw_n (qw_n (qw_0)))))))))))) h))
  · intro s10
    refine qb_istore hX 35 ([some (.ref (qx_ad X this)), some (.int p1), some (.int p2), some (.int p3), some (.int p4), some (.int p5), some (.int x2), some (.int x6), some (.int x8), some (.int s10), none]) rfl (by decide) rfl ?_
    refine qb_aload_n hX 36 rfl rfl ?_
    refine qb_get hX 37 rfl fl_Press_64 hthis rfl (fun x12 => ?_)
    refine qb_join 210 (fun s13 => [some (.ref (qx_ad X this)), none, none, some (.int p3), none, none, none, some (.int x6), none, some (.int s10), none]) (fun s13 => []) ?_ ?_
    ·
      refine qb_iflt hX 38 210 rfl (by decide) ?_ ?_
      ·
        exact qb_exit (fun σ h => qj_wk (ρ' := [some (.ref (qx_ad X this)), none, none, some (.int p3), none, none, none, some (.int x6), none, some (.int s10), none]) (qw_s (qw_n (qw_n (qw_s (qw_n (qw_n (qw_n (qw_s (qw_n (qw_s (qw_n (qw_0)))))))))))) h)
      ·
        refine qb_aload_n hX 39 rfl rfl ?_
        refine qb_get hX 40 rfl fl_Press_64 hthis rfl (fun x14 => ?_)
        refine qb_aload_n hX 41 rfl rfl ?_
        refine qb_getR hX 42 rfl fl_Press_41 hthis rfl ?_
        refine qb_alenR hX 43 (Int32.ofNat (qm_kd (qm_rf this 3)).2) rfl (Or.inl (kf_Press_3 hthis)) rfl ?_
        refine qb_icge hX 44 210 rfl (by decide) ?_ ?_
        ·
          exact qb_exit (fun σ h => qj_wk (ρ' := [some (.ref (qx_ad X this)), none, none, some (.int p3), none, none, none, some (.int x6), none, some (.int s10), none]) (qw_s (qw_n (qw_n (qw_s (qw_n (qw_n (qw_n (qw_s (qw_n (qw_s (qw_n (qw_0)))))))))))) h)
        ·
          refine qb_aload_n hX 45 rfl rfl ?_
          refine qb_getR hX 46 rfl fl_Press_41 hthis rfl ?_
          refine qb_aload_n hX 47 rfl rfl ?_
          refine qb_get hX 48 rfl fl_Press_64 hthis rfl (fun x15 => ?_)
          refine qb_aald hX 49 rfl (Or.inl (kf_Press_3 hthis)) (ka_4 (kf_Press_3 hthis)) (fun r16 hr16 => ?_)
          refine qb_astore hX 50 ([some (.ref (qx_ad X this)), some (.int p1), some (.int p2), some (.int p3), some (.int p4), some (.int p5), some (.int x2), some (.int x6), some (.int x8), some (.int s10), some (.ref (qx_ad X r16))]) rfl (by decide) rfl ?_
          refine qb_aload hX 51 rfl rfl ?_
          refine qb_iconst hX 52 0 rfl (by decide) ?_
          refine qb_aload_n hX 53 rfl rfl ?_
          refine qb_get hX 54 rfl fl_Press_67 hthis rfl (fun x17 => ?_)
          refine qb_iast hX 55 rfl hr16 ?_
          refine qb_aload hX 56 rfl rfl ?_
          refine qb_iconst hX 57 1 rfl (by decide) ?_
          refine qb_iload_n hX 58 rfl rfl ?_
          refine qb_iast hX 59 rfl hr16 ?_
          refine qb_aload hX 60 rfl rfl ?_
          refine qb_iconst hX 61 2 rfl (by decide) ?_
          refine qb_iload_n hX 62 rfl rfl ?_
          refine qb_iast hX 63 rfl hr16 ?_
          refine qb_aload hX 64 rfl rfl ?_
          refine qb_iconst hX 65 3 rfl (by decide) ?_
          refine qb_aload_n hX 66 rfl rfl ?_
          refine qb_get hX 67 rfl fl_Press_92 hthis rfl (fun x18 => ?_)
          refine qb_iast hX 68 rfl hr16 ?_
          refine qb_aload hX 69 rfl rfl ?_
          refine qb_iconst hX 70 4 rfl (by decide) ?_
          refine qb_iload_n hX 71 rfl rfl ?_
          refine qb_iast hX 72 rfl hr16 ?_
          refine qb_aload hX 73 rfl rfl ?_
          refine qb_iconst hX 74 5 rfl (by decide) ?_
          refine qb_aload_n hX 75 rfl rfl ?_
          refine qb_getR hX 76 rfl fl_Press_20 hthis rfl ?_
          refine qb_aload_n hX 77 rfl rfl ?_
          refine qb_get hX 78 rfl fl_Press_92 hthis rfl (fun x19 => ?_)
          refine qb_iload_n hX 79 rfl rfl ?_
          refine qb_callI hX 80 rfl cv_Press_152 (jm_Flow_text (qk_GI hX) (qm_rf this 1) x19 p3 (kf_Press_1 hthis) ) (ci := 1) (kf_Press_1 hthis) ⟨rfl, rfl, rfl, by decide, by decide⟩ rfl (by exact Nat.le_of_ble_eq_true rfl) (fun x20 => ?_)
          refine qb_iast hX 81 rfl hr16 ?_
          refine qb_aload hX 82 rfl rfl ?_
          refine qb_bipush hX 83 6 rfl (by decide) ?_
          refine qb_aload_n hX 84 rfl rfl ?_
          refine qb_get hX 85 rfl fl_Press_95 hthis rfl (fun x21 => ?_)
          refine qb_iast hX 86 rfl hr16 ?_
          refine qb_aload hX 87 rfl rfl ?_
          refine qb_bipush hX 88 7 rfl (by decide) ?_
          refine qb_iload hX 89 rfl rfl ?_
          refine qb_iast hX 90 rfl hr16 ?_
          refine qb_aload hX 91 rfl rfl ?_
          refine qb_bipush hX 92 8 rfl (by decide) ?_
          refine qb_iload hX 93 rfl rfl ?_
          refine qb_iast hX 94 rfl hr16 ?_
          refine qb_aload hX 95 rfl rfl ?_
          refine qb_bipush hX 96 9 rfl (by decide) ?_
          refine qb_aload_n hX 97 rfl rfl ?_
          refine qb_getR hX 98 rfl fl_Press_9 hthis rfl ?_
          refine qb_iconst hX 99 1 rfl (by decide) ?_
          refine qb_callI hX 100 rfl cv_Press_70 (jm_Run_setting (qk_GI hX) (qm_rf this 0) 1 (kf_Press_0 hthis) ) (ci := 4) (kf_Press_0 hthis) ⟨rfl, rfl, rfl, by decide, by decide⟩ rfl (by exact Nat.le_of_ble_eq_true rfl) (fun x22 => ?_)
          refine qb_aload_n hX 101 rfl rfl ?_
          refine qb_get hX 102 rfl fl_Press_76 hthis rfl (fun x23 => ?_)
          refine qb_isub hX 103 rfl ?_
          refine qb_iast hX 104 rfl hr16 ?_
          refine qb_aload hX 105 rfl rfl ?_
          refine qb_bipush hX 106 10 rfl (by decide) ?_
          refine qb_iload hX 107 rfl rfl ?_
          refine qb_iast hX 108 rfl hr16 ?_
          refine qb_aload hX 109 rfl rfl ?_
          refine qb_bipush hX 110 11 rfl (by decide) ?_
          refine qb_iload hX 111 rfl rfl ?_
          refine qb_join 209 (fun s24 => [some (.ref (qx_ad X this)), none, none, some (.int p3), none, none, none, some (.int x6), none, some (.int s10), none]) (fun s24 => [.int s24, .int 11, .ref (qx_ad X r16)]) ?_ ?_
          ·
            refine qb_ifeq hX 112 208 rfl (by decide) ?_ ?_
            ·
              refine qb_iconst hX 115 0 rfl (by decide) ?_
              exact qb_exit (fun σ h => qj_wk (ρ' := [some (.ref (qx_ad X this)), none, none, some (.int p3), none, none, none, some (.int x6), none, some (.int s10), none]) (qw_s (qw_n (qw_n (qw_s (qw_n (qw_n (qw_n (qw_s (qw_n (qw_s (qw_n (qw_0)))))))))))) h)
            ·
              refine qb_iconst hX 113 1 rfl (by decide) ?_
              exact qb_exit (fun σ h => qj_goto hX 114 rfl (by decide) (qj_wk (ρ' := [some (.ref (qx_ad X this)), none, none, some (.int p3), none, none, none, some (.int x6), none, some (.int s10), none]) (qw_s (qw_n (qw_n (qw_s (qw_n (qw_n (qw_n (qw_s (qw_n (qw_s (qw_n (qw_0)))))))))))) h))
          · intro s24
            refine qb_iast hX 116 rfl hr16 ?_
            exact qb_exit (fun σ h => qj_wk (ρ' := [some (.ref (qx_ad X this)), none, none, some (.int p3), none, none, none, some (.int x6), none, some (.int s10), none]) (qw_s (qw_n (qw_n (qw_s (qw_n (qw_n (qw_n (qw_s (qw_n (qw_s (qw_n (qw_0)))))))))))) h)
    · intro s13
      refine qb_aload_n hX 117 rfl rfl ?_
      refine qb_dup hX 118 rfl rfl ?_
      refine qb_get hX 119 rfl fl_Press_64 hthis rfl (fun x25 => ?_)
      refine qb_iconst hX 120 1 rfl (by decide) ?_
      refine qb_iadd hX 121 rfl ?_
      refine qb_put hX 122 rfl fp_Press_64 hthis ?_
      refine qb_aload_n hX 123 rfl rfl ?_
      refine qb_iload_n hX 124 rfl rfl ?_
      refine qb_put hX 125 rfl fp_Press_92 hthis ?_
      refine qb_aload_n hX 126 rfl rfl ?_
      refine qb_iload hX 127 rfl rfl ?_
      refine qb_put hX 128 rfl fp_Press_95 hthis ?_
      refine qb_iload hX 129 rfl rfl ?_
      exact qb_zret hX 130 (a := fun x26 => x26) rfl hR (fun _ h => h)
theorem jm_Press_putColumn {l : Launch} {G : qm_G} (hG : qm_GI G) (this : Nat) (p1 : Int32) (p2 : Int32) (p3 : Int32) (p4 : Int32) (p5 : Int32) (hthis : (qm_kd this).1 = 13) : qm_MI l G jy_Press_putColumn prog_5_method_12_code 11 (some .boolean) 2 50 [.ref (G.1 this), .int p1, .int p2, .int p3, .int p4, .int p5] (jf_Press_putColumn this p1 p2 p3 p4 p5) :=
  qm_metI (by decide +kernel) jd_Press_putColumn (fun v hv => by simp only [List.mem_cons, List.not_mem_nil, or_false] at hv; rcases hv with rfl | rfl | rfl | rfl | rfl | rfl <;> rfl) (by exact Nat.le_of_ble_eq_true rfl) hG rfl (fun X hl hg hX r0 σ0 hR => by subst hl; subst hg; exact jb_Press_putColumn hX hR this p1 p2 p3 p4 p5 hthis)
def jl_Press_level : List qm_I := [(0, .aload_n 0, 1, 1), (1, .getfield 9, 3, 4), (4, .iconst 0, 1, 5), (5, .invokevirtual 70, 3, 8), (8, .istore_n 3, 1, 9), (9, .aload_n 0, 1, 10), (10, .getfield 29, 3, 13), (13, .iload_n 1, 1, 14), (14, .iload_n 3, 1, 15), (15, .iload_n 2, 1, 16), (16, .invokevirtual 134, 3, 19), (19, .iconst 0, 1, 20), (20, .istore 4, 2, 22), (22, .iload 4, 2, 24), (24, .iload_n 3, 1, 25), (25, .if_icmp .ge 52, 3, 28), (28, .aload_n 0, 1, 29), (29, .getfield 29, 3, 32), (32, .iload_n 1, 1, 33), (33, .aload_n 0, 1, 34), (34, .getfield 92, 3, 37), (37, .aload_n 0, 1, 38), (38, .getfield 95, 3, 41), (41, .iload_n 2, 1, 42), (42, .iload_n 3, 1, 43), (43, .iconst 1, 1, 44), (44, .isub, 1, 45), (45, .iload 4, 2, 47), (47, .isub, 1, 48), (48, .invokevirtual 138, 3, 51), (51, .istore 5, 2, 53), (53, .iload 5, 2, 55), (55, .iconst (-1), 1, 56), (56, .if_icmp .eq 15, 3, 59), (59, .aload_n 0, 1, 60), (60, .iload_n 1, 1, 61), (61, .iload 4, 2, 63), (63, .iload 5, 2, 65), (65, .iload_n 2, 1, 66), (66, .iconst 1, 1, 67), (67, .invokevirtual 142, 3, 70), (70, .pop, 1, 71), (71, .iinc 4 1, 3, 74), (74, .goto (-52), 3, 77), (77, .return_, 1, 78)]
theorem jd_Press_level : qm_D prog_5_method_10_code jl_Press_level := qm_D_of (by decide +kernel)
noncomputable def jf_Press_level (this : Nat) (p1 : Int32) (p2 : Int32) : qm_M Unit :=
  mB (jf_Run_setting (qm_rf this 0) 0) fun x1 =>
  mB (jf_Fitter_measure (qm_rf this 2) p1 x1 p2) fun _ =>
  mB (α := Unit) (
    mW (S := Int32) (α := Unit) (fun s3 =>
      if x1 ≤ s3 then
        mP (Sum.inr ())
      else
        mB (mGt this 7) fun x4 =>
        mB (mGt this 8) fun x5 =>
        mB (jf_Fitter_latest (qm_rf this 2) p1 x4 x5 p2 ((x1 - 1) - s3)) fun x6 =>
        mB (α := Unit) (
          if x6 = (-1) then
            mP ()
          else
            mB (jf_Press_putColumn this p1 s3 x6 p2 1) fun x8 =>
            mP ()) fun s7 =>
        mB (mP (s3 + 1)) fun x9 =>
        mP (Sum.inl x9)) 0) fun s2 =>
  mP ()
set_option maxRecDepth 20000 in
set_option maxHeartbeats 4000000 in
theorem jb_Press_level {X : qm_X} (hX : qm_ok X qr_Press prog_5_method_10_code 6 3 80 jl_Press_level) {σ0 : qm_Mem} (hR : qm_RV X σ0) (this : Nat) (p1 : Int32) (p2 : Int32) (hthis : (qm_kd this).1 = 13) : qm_B X (jf_Press_level this p1 p2) 0 [some (.ref (qx_ad X this)), some (.int p1), some (.int p2), none, none, none] [] (fun _ σ1 => σ1 = σ0) := by
  unfold jf_Press_level
  refine qb_aload_n hX 0 rfl rfl ?_
  refine qb_getR hX 1 rfl fl_Press_9 hthis rfl ?_
  refine qb_iconst hX 2 0 rfl (by decide) ?_
  refine qb_callI hX 3 rfl cv_Press_70 (jm_Run_setting (qk_GI hX) (qm_rf this 0) 0 (kf_Press_0 hthis) ) (ci := 4) (kf_Press_0 hthis) ⟨rfl, rfl, rfl, by decide, by decide⟩ rfl (by exact Nat.le_of_ble_eq_true rfl) (fun x1 => ?_)
  refine qb_istore_n hX 4 ([some (.ref (qx_ad X this)), some (.int p1), some (.int p2), some (.int x1), none, none]) rfl (by decide) rfl ?_
  refine qb_aload_n hX 5 rfl rfl ?_
  refine qb_getR hX 6 rfl fl_Press_29 hthis rfl ?_
  refine qb_iload_n hX 7 rfl rfl ?_
  refine qb_iload_n hX 8 rfl rfl ?_
  refine qb_iload_n hX 9 rfl rfl ?_
  refine qb_callV hX 10 rfl cv_Press_134 (jm_Fitter_measure (qk_GI hX) (qm_rf this 2) p1 x1 p2 (kf_Press_2 hthis) ) (ci := 0) (kf_Press_2 hthis) ⟨rfl, rfl, rfl, by decide, by decide⟩ rfl (by exact Nat.le_of_ble_eq_true rfl) ?_
  refine qb_iconst hX 11 0 rfl (by decide) ?_
  refine qb_istore hX 12 ([some (.ref (qx_ad X this)), some (.int p1), some (.int p2), some (.int x1), some (.int 0), none]) rfl (by decide) rfl ?_
  refine qb_join 77 (fun s2 => [none, none, none, none, none, none]) (fun s2 => []) ?_ ?_
  ·
    refine qb_loopw (0) (fun s3 => [some (.ref (qx_ad X this)), some (.int p1), some (.int p2), some (.int x1), some (.int s3), none]) (qw_s (qw_s (qw_s (qw_s (qw_s (qw_n (qw_0))))))) (fun s3 => ?_)
    refine qb_iload hX 13 rfl rfl ?_
    refine qb_iload_n hX 14 rfl rfl ?_
    refine qb_icge hX 15 77 rfl (by decide) ?_ ?_
    ·
      exact qb_exit (fun σ h => qj_wk (ρ' := [none, none, none, none, none, none]) (qw_n (qw_n (qw_n (qw_n (qw_n (qw_n (qw_0))))))) h)
    ·
      refine qb_aload_n hX 16 rfl rfl ?_
      refine qb_getR hX 17 rfl fl_Press_29 hthis rfl ?_
      refine qb_iload_n hX 18 rfl rfl ?_
      refine qb_aload_n hX 19 rfl rfl ?_
      refine qb_get hX 20 rfl fl_Press_92 hthis rfl (fun x4 => ?_)
      refine qb_aload_n hX 21 rfl rfl ?_
      refine qb_get hX 22 rfl fl_Press_95 hthis rfl (fun x5 => ?_)
      refine qb_iload_n hX 23 rfl rfl ?_
      refine qb_iload_n hX 24 rfl rfl ?_
      refine qb_iconst hX 25 1 rfl (by decide) ?_
      refine qb_isub hX 26 rfl ?_
      refine qb_iload hX 27 rfl rfl ?_
      refine qb_isub hX 28 rfl ?_
      refine qb_callI hX 29 rfl cv_Press_138 (jm_Fitter_latest (qk_GI hX) (qm_rf this 2) p1 x4 x5 p2 ((x1 - 1) - s3) (kf_Press_2 hthis) ) (ci := 0) (kf_Press_2 hthis) ⟨rfl, rfl, rfl, by decide, by decide⟩ rfl (by exact Nat.le_of_ble_eq_true rfl) (fun x6 => ?_)
      refine qb_istore hX 30 ([some (.ref (qx_ad X this)), some (.int p1), some (.int p2), some (.int x1), some (.int s3), some (.int x6)]) rfl (by decide) rfl ?_
      refine qb_iload hX 31 rfl rfl ?_
      refine qb_iconst hX 32 (-1) rfl (by decide) ?_
      refine qb_join 71 (fun s7 => [some (.ref (qx_ad X this)), some (.int p1), some (.int p2), some (.int x1), some (.int s3), none]) (fun s7 => []) ?_ ?_
      ·
        refine qb_iceq hX 33 71 rfl (by decide) ?_ ?_
        ·
          exact qb_exit (fun σ h => qj_wk (ρ' := [some (.ref (qx_ad X this)), some (.int p1), some (.int p2), some (.int x1), some (.int s3), none]) (qw_s (qw_s (qw_s (qw_s (qw_s (qw_n (qw_0))))))) h)
        ·
          refine qb_aload_n hX 34 rfl rfl ?_
          refine qb_iload_n hX 35 rfl rfl ?_
          refine qb_iload hX 36 rfl rfl ?_
          refine qb_iload hX 37 rfl rfl ?_
          refine qb_iload_n hX 38 rfl rfl ?_
          refine qb_iconst hX 39 1 rfl (by decide) ?_
          refine qb_callI hX 40 rfl cv_Press_142 (jm_Press_putColumn (qk_GI hX) this p1 s3 x6 p2 1 hthis ) (ci := 3) hthis ⟨rfl, rfl, rfl, by decide, by decide⟩ rfl (by exact Nat.le_of_ble_eq_true rfl) (fun x8 => ?_)
          refine qb_pop hX 41 rfl rfl ?_
          exact qb_exit (fun σ h => qj_wk (ρ' := [some (.ref (qx_ad X this)), some (.int p1), some (.int p2), some (.int x1), some (.int s3), none]) (qw_s (qw_s (qw_s (qw_s (qw_s (qw_n (qw_0))))))) h)
      · intro s7
        refine qb_iinc hX 42 1 (fun x9 => [some (.ref (qx_ad X this)), some (.int p1), some (.int p2), some (.int x1), some (.int x9), none]) rfl (by decide) (by decide) rfl (fun _ => rfl) (fun x9 => ?_)
        exact qb_exit (fun σ h => qj_goto hX 43 rfl (by decide) (qj_wk (ρ' := [some (.ref (qx_ad X this)), some (.int p1), some (.int p2), some (.int x1), some (.int x9), none]) (qw_s (qw_s (qw_s (qw_s (qw_s (qw_n (qw_0))))))) h))
  · intro s2
    exact qb_vret hX 44 rfl hR (fun _ h => h)
theorem jm_Press_level {l : Launch} {G : qm_G} (hG : qm_GI G) (this : Nat) (p1 : Int32) (p2 : Int32) (hthis : (qm_kd this).1 = 13) : qm_MV l G jy_Press_level prog_5_method_10_code 6 3 80 [.ref (G.1 this), .int p1, .int p2] (jf_Press_level this p1 p2) :=
  qm_metV (by decide +kernel) jd_Press_level (fun v hv => by simp only [List.mem_cons, List.not_mem_nil, or_false] at hv; rcases hv with rfl | rfl | rfl <;> rfl) (by exact Nat.le_of_ble_eq_true rfl) hG (fun X hl hg hX σ0 hR => by subst hl; subst hg; exact jb_Press_level hX hR this p1 p2 hthis)
def jl_Press_fill : List qm_I := [(0, .aload_n 0, 1, 1), (1, .getfield 64, 3, 4), (4, .istore_n 2, 1, 5), (5, .aload_n 0, 1, 6), (6, .getfield 92, 3, 9), (9, .istore_n 3, 1, 10), (10, .aload_n 0, 1, 11), (11, .getfield 95, 3, 14), (14, .istore 4, 2, 16), (16, .iconst 0, 1, 17), (17, .istore 5, 2, 19), (19, .aload_n 0, 1, 20), (20, .getfield 9, 3, 23), (23, .iconst 0, 1, 24), (24, .invokevirtual 70, 3, 27), (27, .istore 6, 2, 29), (29, .iconst 0, 1, 30), (30, .istore 7, 2, 32), (32, .iload 7, 2, 34), (34, .iload 6, 2, 36), (36, .if_icmp .ge 73, 3, 39), (39, .aload_n 0, 1, 40), (40, .getfield 29, 3, 43), (43, .iload_n 1, 1, 44), (44, .aload_n 0, 1, 45), (45, .getfield 92, 3, 48), (48, .aload_n 0, 1, 49), (49, .getfield 95, 3, 52), (52, .aload_n 0, 1, 53), (53, .getfield 76, 3, 56), (56, .iconst (-1), 1, 57), (57, .invokevirtual 138, 3, 60), (60, .istore 8, 2, 62), (62, .iload 8, 2, 64), (64, .iconst (-1), 1, 65), (65, .if_icmp .ne 9, 3, 68), (68, .iconst 0, 1, 69), (69, .istore 5, 2, 71), (71, .goto 38, 3, 74), (74, .aload_n 0, 1, 75), (75, .iload_n 1, 1, 76), (76, .iload 7, 2, 78), (78, .iload 8, 2, 80), (80, .aload_n 0, 1, 81), (81, .getfield 76, 3, 84), (84, .iconst 0, 1, 85), (85, .invokevirtual 142, 3, 88), (88, .ifCond .ne 8, 3, 91), (91, .iload 5, 2, 93), (93, .ifCond .eq 7, 3, 96), (96, .iconst 1, 1, 97), (97, .goto 4, 3, 100), (100, .iconst 0, 1, 101), (101, .istore 5, 2, 103), (103, .iinc 7 1, 3, 106), (106, .goto (-74), 3, 109), (109, .iload 5, 2, 111), (111, .ifCond .ne 19, 3, 114), (114, .aload_n 0, 1, 115), (115, .iload_n 2, 1, 116), (116, .putfield 64, 3, 119), (119, .aload_n 0, 1, 120), (120, .iload_n 3, 1, 121), (121, .putfield 92, 3, 124), (124, .aload_n 0, 1, 125), (125, .iload 4, 2, 127), (127, .putfield 95, 3, 130), (130, .iload 5, 2, 132), (132, .ireturn, 1, 133)]
theorem jd_Press_fill : qm_D prog_5_method_11_code jl_Press_fill := qm_D_of (by decide +kernel)
noncomputable def jf_Press_fill (this : Nat) (p1 : Int32) : qm_M Int32 :=
  mB (mGt this 4) fun x1 =>
  mB (mGt this 7) fun x2 =>
  mB (mGt this 8) fun x3 =>
  mB (jf_Run_setting (qm_rf this 0) 0) fun x4 =>
  mB (α := Int32) (
    mB (α := (Unit ⊕ Int32)) (
      mW (S := Int32 × Int32) (α := (Unit ⊕ Int32)) (fun s7 =>
        if x4 ≤ s7.2 then
          mP (Sum.inr (Sum.inr s7.1))
        else
          mB (mGt this 7) fun x8 =>
          mB (mGt this 8) fun x9 =>
          mB (mGt this 6) fun x10 =>
          mB (jf_Fitter_latest (qm_rf this 2) p1 x8 x9 x10 (-1)) fun x11 =>
          if ¬ x11 = (-1) then
            mB (mGt this 6) fun x12 =>
            mB (jf_Press_putColumn this p1 s7.2 x11 x12 0) fun x13 =>
            mB (α := Int32) (
              mB (α := (Unit ⊕ Int32)) (
                if ¬ x13 = 0 then
                  mP (Sum.inl ())
                else
                  if s7.1 = 0 then
                    mP (Sum.inr 0)
                  else
                    mP (Sum.inl ())) (Sum.elim (fun s15 =>
                mP 1) mP)) fun s14 =>
            mB (mP (s7.2 + 1)) fun x16 =>
            mP (Sum.inl (s14, x16))
          else
            mP (Sum.inr (Sum.inl ()))) (0, 0)) (Sum.elim (fun s6 =>
      mP 0) mP)) fun s5 =>
  if ¬ s5 = 0 then
    mB (mZ s5) fun x17 => mP x17
  else
    mB (mPt this 4 x1) fun _ =>
    mB (mPt this 7 x2) fun _ =>
    mB (mPt this 8 x3) fun _ =>
    mB (mZ s5) fun x18 => mP x18
set_option maxRecDepth 20000 in
set_option maxHeartbeats 4000000 in
theorem jb_Press_fill {X : qm_X} (hX : qm_ok X qr_Press prog_5_method_11_code 9 3 80 jl_Press_fill) {r0 : Int32} {σ0 : qm_Mem} (hR : qm_RI X r0 σ0 .boolean) (this : Nat) (p1 : Int32) (hthis : (qm_kd this).1 = 13) : qm_B X (jf_Press_fill this p1) 0 [some (.ref (qx_ad X this)), some (.int p1), none, none, none, none, none, none, none] [] (fun r σ1 => r = r0 ∧ σ1 = σ0) := by
  unfold jf_Press_fill
  refine qb_aload_n hX 0 rfl rfl ?_
  refine qb_get hX 1 rfl fl_Press_64 hthis rfl (fun x1 => ?_)
  refine qb_istore_n hX 2 ([some (.ref (qx_ad X this)), some (.int p1), some (.int x1), none, none, none, none, none, none]) rfl (by decide) rfl ?_
  refine qb_aload_n hX 3 rfl rfl ?_
  refine qb_get hX 4 rfl fl_Press_92 hthis rfl (fun x2 => ?_)
  refine qb_istore_n hX 5 ([some (.ref (qx_ad X this)), some (.int p1), some (.int x1), some (.int x2), none, none, none, none, none]) rfl (by decide) rfl ?_
  refine qb_aload_n hX 6 rfl rfl ?_
  refine qb_get hX 7 rfl fl_Press_95 hthis rfl (fun x3 => ?_)
  refine qb_istore hX 8 ([some (.ref (qx_ad X this)), some (.int p1), some (.int x1), some (.int x2), some (.int x3), none, none, none, none]) rfl (by decide) rfl ?_
  refine qb_iconst hX 9 0 rfl (by decide) ?_
  refine qb_istore hX 10 ([some (.ref (qx_ad X this)), some (.int p1), some (.int x1), some (.int x2), some (.int x3), some (.int 0), none, none, none]) rfl (by decide) rfl ?_
  refine qb_aload_n hX 11 rfl rfl ?_
  refine qb_getR hX 12 rfl fl_Press_9 hthis rfl ?_
  refine qb_iconst hX 13 0 rfl (by decide) ?_
  refine qb_callI hX 14 rfl cv_Press_70 (jm_Run_setting (qk_GI hX) (qm_rf this 0) 0 (kf_Press_0 hthis) ) (ci := 4) (kf_Press_0 hthis) ⟨rfl, rfl, rfl, by decide, by decide⟩ rfl (by exact Nat.le_of_ble_eq_true rfl) (fun x4 => ?_)
  refine qb_istore hX 15 ([some (.ref (qx_ad X this)), some (.int p1), some (.int x1), some (.int x2), some (.int x3), some (.int 0), some (.int x4), none, none]) rfl (by decide) rfl ?_
  refine qb_iconst hX 16 0 rfl (by decide) ?_
  refine qb_istore hX 17 ([some (.ref (qx_ad X this)), some (.int p1), some (.int x1), some (.int x2), some (.int x3), some (.int 0), some (.int x4), some (.int 0), none]) rfl (by decide) rfl ?_
  refine qb_join 109 (fun s5 => [some (.ref (qx_ad X this)), none, some (.int x1), some (.int x2), some (.int x3), some (.int s5), none, none, none]) (fun s5 => []) ?_ ?_
  ·
    refine qb_join2 68 (fun s6 => [some (.ref (qx_ad X this)), none, some (.int x1), some (.int x2), some (.int x3), none, none, none, none]) (fun s6 => []) ?_ ?_
    ·
      refine qb_loopw ((0, 0)) (fun s7 => [some (.ref (qx_ad X this)), some (.int p1), some (.int x1), some (.int x2), some (.int x3), some (.int s7.1), some (.int x4), some (.int s7.2), none]) (qw_s (qw_s (qw_s (qw_s (qw_s (qw_s (qw_s (qw_s (qw_n (qw_0)))))))))) (fun s7 => ?_)
      refine qb_iload hX 18 rfl rfl ?_
      refine qb_iload hX 19 rfl rfl ?_
      refine qb_icge hX 20 109 rfl (by decide) ?_ ?_
      ·
        exact qb_exit (fun σ h => qj_wk (ρ' := [some (.ref (qx_ad X this)), none, some (.int x1), some (.int x2), some (.int x3), some (.int s7.1), none, none, none]) (qw_s (qw_n (qw_s (qw_s (qw_s (qw_s (qw_n (qw_n (qw_n (qw_0)))))))))) h)
      ·
        refine qb_aload_n hX 21 rfl rfl ?_
        refine qb_getR hX 22 rfl fl_Press_29 hthis rfl ?_
        refine qb_iload_n hX 23 rfl rfl ?_
        refine qb_aload_n hX 24 rfl rfl ?_
        refine qb_get hX 25 rfl fl_Press_92 hthis rfl (fun x8 => ?_)
        refine qb_aload_n hX 26 rfl rfl ?_
        refine qb_get hX 27 rfl fl_Press_95 hthis rfl (fun x9 => ?_)
        refine qb_aload_n hX 28 rfl rfl ?_
        refine qb_get hX 29 rfl fl_Press_76 hthis rfl (fun x10 => ?_)
        refine qb_iconst hX 30 (-1) rfl (by decide) ?_
        refine qb_callI hX 31 rfl cv_Press_138 (jm_Fitter_latest (qk_GI hX) (qm_rf this 2) p1 x8 x9 x10 (-1) (kf_Press_2 hthis) ) (ci := 0) (kf_Press_2 hthis) ⟨rfl, rfl, rfl, by decide, by decide⟩ rfl (by exact Nat.le_of_ble_eq_true rfl) (fun x11 => ?_)
        refine qb_istore hX 32 ([some (.ref (qx_ad X this)), some (.int p1), some (.int x1), some (.int x2), some (.int x3), some (.int s7.1), some (.int x4), some (.int s7.2), some (.int x11)]) rfl (by decide) rfl ?_
        refine qb_iload hX 33 rfl rfl ?_
        refine qb_iconst hX 34 (-1) rfl (by decide) ?_
        refine qb_icne hX 35 74 rfl (by decide) ?_ ?_
        ·
          refine qb_aload_n hX 39 rfl rfl ?_
          refine qb_iload_n hX 40 rfl rfl ?_
          refine qb_iload hX 41 rfl rfl ?_
          refine qb_iload hX 42 rfl rfl ?_
          refine qb_aload_n hX 43 rfl rfl ?_
          refine qb_get hX 44 rfl fl_Press_76 hthis rfl (fun x12 => ?_)
          refine qb_iconst hX 45 0 rfl (by decide) ?_
          refine qb_callI hX 46 rfl cv_Press_142 (jm_Press_putColumn (qk_GI hX) this p1 s7.2 x11 x12 0 hthis ) (ci := 3) hthis ⟨rfl, rfl, rfl, by decide, by decide⟩ rfl (by exact Nat.le_of_ble_eq_true rfl) (fun x13 => ?_)
          refine qb_join 101 (fun s14 => [some (.ref (qx_ad X this)), some (.int p1), some (.int x1), some (.int x2), some (.int x3), none, some (.int x4), some (.int s7.2), none]) (fun s14 => [.int s14]) ?_ ?_
          ·
            refine qb_join2 96 (fun s15 => [some (.ref (qx_ad X this)), some (.int p1), some (.int x1), some (.int x2), some (.int x3), none, some (.int x4), some (.int s7.2), none]) (fun s15 => []) ?_ ?_
            ·
              refine qb_ifne hX 47 96 rfl (by decide) ?_ ?_
              ·
                exact qb_exit (fun σ h => qj_wk (ρ' := [some (.ref (qx_ad X this)), some (.int p1), some (.int x1), some (.int x2), some (.int x3), none, some (.int x4), some (.int s7.2), none]) (qw_s (qw_s (qw_s (qw_s (qw_s (qw_n (qw_s (qw_s (qw_n (qw_0)))))))))) h)
              ·
                refine qb_iload hX 48 rfl rfl ?_
                refine qb_ifeq hX 49 100 rfl (by decide) ?_ ?_
                ·
                  refine qb_iconst hX 52 0 rfl (by decide) ?_
                  exact qb_exit (fun σ h => qj_wk (ρ' := [some (.ref (qx_ad X this)), some (.int p1), some (.int x1), some (.int x2), some (.int x3), none, some (.int x4), some (.int s7.2), none]) (qw_s (qw_s (qw_s (qw_s (qw_s (qw_n (qw_s (qw_s (qw_n (qw_0)))))))))) h)
                ·
                  exact qb_exit (fun σ h => qj_wk (ρ' := [some (.ref (qx_ad X this)), some (.int p1), some (.int x1), some (.int x2), some (.int x3), none, some (.int x4), some (.int s7.2), none]) (qw_s (qw_s (qw_s (qw_s (qw_s (qw_n (qw_s (qw_s (qw_n (qw_0)))))))))) h)
            · intro s15
              refine qb_iconst hX 50 1 rfl (by decide) ?_
              exact qb_exit (fun σ h => qj_goto hX 51 rfl (by decide) (qj_wk (ρ' := [some (.ref (qx_ad X this)), some (.int p1), some (.int x1), some (.int x2), some (.int x3), none, some (.int x4), some (.int s7.2), none]) (qw_s (qw_s (qw_s (qw_s (qw_s (qw_n (qw_s (qw_s (qw_n (qw_0)))))))))) h))
          · intro s14
            refine qb_istore hX 53 ([some (.ref (qx_ad X this)), some (.int p1), some (.int x1), some (.int x2), some (.int x3), some (.int s14), some (.int x4), some (.int s7.2), none]) rfl (by decide) rfl ?_
            refine qb_iinc hX 54 1 (fun x16 => [some (.ref (qx_ad X this)), some (.int p1), some (.int x1), some (.int x2), some (.int x3), some (.int s14), some (.int x4), some (.int x16), none]) rfl (by decide) (by decide) rfl (fun _ => rfl) (fun x16 => ?_)
            exact qb_exit (fun σ h => qj_goto hX 55 rfl (by decide) (qj_wk (ρ' := [some (.ref (qx_ad X this)), some (.int p1), some (.int x1), some (.int x2), some (.int x3), some (.int s14), some (.int x4), some (.int x16), none]) (qw_s (qw_s (qw_s (qw_s (qw_s (qw_s (qw_s (qw_s (qw_n (qw_0)))))))))) h))
        ·
          exact qb_exit (fun σ h => qj_wk (ρ' := [some (.ref (qx_ad X this)), none, some (.int x1), some (.int x2), some (.int x3), none, none, none, none]) (qw_s (qw_n (qw_s (qw_s (qw_s (qw_n (qw_n (qw_n (qw_n (qw_0)))))))))) h)
    · intro s6
      refine qb_iconst hX 36 0 rfl (by decide) ?_
      refine qb_istore hX 37 ([some (.ref (qx_ad X this)), none, some (.int x1), some (.int x2), some (.int x3), some (.int 0), none, none, none]) rfl (by decide) rfl ?_
      exact qb_exit (fun σ h => qj_goto hX 38 rfl (by decide) (qj_wk (ρ' := [some (.ref (qx_ad X this)), none, some (.int x1), some (.int x2), some (.int x3), some (.int 0), none, none, none]) (qw_s (qw_n (qw_s (qw_s (qw_s (qw_s (qw_n (qw_n (qw_n (qw_0)))))))))) h))
  · intro s5
    refine qb_iload hX 56 rfl rfl ?_
    refine qb_ifne hX 57 130 rfl (by decide) ?_ ?_
    ·
      refine qb_iload hX 67 rfl rfl ?_
      exact qb_zret hX 68 (a := fun x17 => x17) rfl hR (fun _ h => h)
    ·
      refine qb_aload_n hX 58 rfl rfl ?_
      refine qb_iload_n hX 59 rfl rfl ?_
      refine qb_put hX 60 rfl fp_Press_64 hthis ?_
      refine qb_aload_n hX 61 rfl rfl ?_
      refine qb_iload_n hX 62 rfl rfl ?_
      refine qb_put hX 63 rfl fp_Press_92 hthis ?_
      refine qb_aload_n hX 64 rfl rfl ?_
      refine qb_iload hX 65 rfl rfl ?_
      refine qb_put hX 66 rfl fp_Press_95 hthis ?_
      refine qb_iload hX 67 rfl rfl ?_
      exact qb_zret hX 68 (a := fun x18 => x18) rfl hR (fun _ h => h)
theorem jm_Press_fill {l : Launch} {G : qm_G} (hG : qm_GI G) (this : Nat) (p1 : Int32) (hthis : (qm_kd this).1 = 13) : qm_MI l G jy_Press_fill prog_5_method_11_code 9 (some .boolean) 3 80 [.ref (G.1 this), .int p1] (jf_Press_fill this p1) :=
  qm_metI (by decide +kernel) jd_Press_fill (fun v hv => by simp only [List.mem_cons, List.not_mem_nil, or_false] at hv; rcases hv with rfl | rfl <;> rfl) (by exact Nat.le_of_ble_eq_true rfl) hG rfl (fun X hl hg hX r0 σ0 hR => by subst hl; subst hg; exact jb_Press_fill hX hR this p1 hthis)
def jl_Press_pourSection : List qm_I := [(0, .iconst 0, 1, 1), (1, .istore_n 2, 1, 2), (2, .iconst 0, 1, 3), (3, .istore_n 3, 1, 4), (4, .iload_n 3, 1, 5), (5, .bipush 40, 2, 7), (7, .if_icmp .gt 103, 3, 10), (10, .iload_n 2, 1, 11), (11, .ifCond .ne 99, 3, 14), (14, .aload_n 0, 1, 15), (15, .getfield 51, 3, 18), (18, .iconst (-1), 1, 19), (19, .if_icmp .ne 91, 3, 22), (22, .aload_n 0, 1, 23), (23, .getfield 29, 3, 26), (26, .iload_n 1, 1, 27), (27, .aload_n 0, 1, 28), (28, .getfield 92, 3, 31), (31, .aload_n 0, 1, 32), (32, .getfield 95, 3, 35), (35, .aload_n 0, 1, 36), (36, .getfield 76, 3, 39), (39, .invokevirtual 122, 3, 42), (42, .istore 4, 2, 44), (44, .iload 4, 2, 46), (46, .bipush (-2), 2, 48), (48, .if_icmp .eq 26, 3, 51), (51, .aload_n 0, 1, 52), (52, .iload_n 1, 1, 53), (53, .iload 4, 2, 55), (55, .invokevirtual 126, 3, 58), (58, .aload_n 0, 1, 59), (59, .dup, 1, 60), (60, .getfield 76, 3, 63), (63, .iload 4, 2, 65), (65, .isub, 1, 66), (66, .putfield 76, 3, 69), (69, .iconst 1, 1, 70), (70, .istore_n 2, 1, 71), (71, .goto 33, 3, 74), (74, .aload_n 0, 1, 75), (75, .iload_n 1, 1, 76), (76, .invokevirtual 130, 3, 79), (79, .ifCond .ne 21, 3, 82), (82, .aload_n 0, 1, 83), (83, .invokevirtual 115, 3, 86), (86, .ifCond .eq 14, 3, 89), (89, .aload_n 0, 1, 90), (90, .aload_n 0, 1, 91), (91, .getfield 92, 3, 94), (94, .putfield 51, 3, 97), (97, .goto 7, 3, 100), (100, .aload_n 0, 1, 101), (101, .invokevirtual 119, 3, 104), (104, .iinc 3 1, 3, 107), (107, .goto (-103), 3, 110), (110, .return_, 1, 111)]
theorem jd_Press_pourSection : qm_D prog_5_method_9_code jl_Press_pourSection := qm_D_of (by decide +kernel)
noncomputable def jf_Press_pourSection (this : Nat) (p1 : Int32) : qm_M Unit :=
  mB (α := Unit) (
    mW (S := Int32 × Int32) (α := Unit) (fun s2 =>
      if 40 < s2.2 then
        mP (Sum.inr ())
      else
        if ¬ s2.1 = 0 then
          mP (Sum.inr ())
        else
          mB (mGt this 9) fun x3 =>
          if ¬ x3 = (-1) then
            mP (Sum.inr ())
          else
            mB (mGt this 7) fun x4 =>
            mB (mGt this 8) fun x5 =>
            mB (mGt this 6) fun x6 =>
            mB (jf_Fitter_leastFrom (qm_rf this 2) p1 x4 x5 x6) fun x7 =>
            mB (α := Int32) (
              if x7 = (-2) then
                mB (jf_Press_fill this p1) fun x9 =>
                mB (α := (Unit ⊕ Int32)) (
                  if ¬ x9 = 0 then
                    mP (Sum.inl ())
                  else
                    mB (jf_Press_pageIsFree this) fun x11 =>
                    if x11 = 0 then
                      mP (Sum.inl ())
                    else
                      mB (mGt this 7) fun x12 =>
                      mB (mPt this 9 x12) fun _ =>
                      mP (Sum.inr s2.1)) (Sum.elim (fun s10 =>
                  mB (jf_Press_turnPage this) fun _ =>
                  mP s2.1) mP)
              else
                mB (jf_Press_level this p1 x7) fun _ =>
                mB (mGt this 6) fun x13 =>
                mB (mPt this 6 (x13 - x7)) fun _ =>
                mP 1) fun s8 =>
            mB (mP (s2.2 + 1)) fun x14 =>
            mP (Sum.inl (s8, x14))) (0, 0)) fun s1 =>
  mP ()
set_option maxRecDepth 20000 in
set_option maxHeartbeats 4000000 in
theorem jb_Press_pourSection {X : qm_X} (hX : qm_ok X qr_Press prog_5_method_9_code 5 4 109 jl_Press_pourSection) {σ0 : qm_Mem} (hR : qm_RV X σ0) (this : Nat) (p1 : Int32) (hthis : (qm_kd this).1 = 13) : qm_B X (jf_Press_pourSection this p1) 0 [some (.ref (qx_ad X this)), some (.int p1), none, none, none] [] (fun _ σ1 => σ1 = σ0) := by
  unfold jf_Press_pourSection
  refine qb_iconst hX 0 0 rfl (by decide) ?_
  refine qb_istore_n hX 1 ([some (.ref (qx_ad X this)), some (.int p1), some (.int 0), none, none]) rfl (by decide) rfl ?_
  refine qb_iconst hX 2 0 rfl (by decide) ?_
  refine qb_istore_n hX 3 ([some (.ref (qx_ad X this)), some (.int p1), some (.int 0), some (.int 0), none]) rfl (by decide) rfl ?_
  refine qb_join 110 (fun s1 => [none, none, none, none, none]) (fun s1 => []) ?_ ?_
  ·
    refine qb_loopw ((0, 0)) (fun s2 => [some (.ref (qx_ad X this)), some (.int p1), some (.int s2.1), some (.int s2.2), none]) (qw_s (qw_s (qw_s (qw_s (qw_n (qw_0)))))) (fun s2 => ?_)
    refine qb_iload_n hX 4 rfl rfl ?_
    refine qb_bipush hX 5 40 rfl (by decide) ?_
    refine qb_icgt hX 6 110 rfl (by decide) ?_ ?_
    ·
      exact qb_exit (fun σ h => qj_wk (ρ' := [none, none, none, none, none]) (qw_n (qw_n (qw_n (qw_n (qw_n (qw_0)))))) h)
    ·
      refine qb_iload_n hX 7 rfl rfl ?_
      refine qb_ifne hX 8 110 rfl (by decide) ?_ ?_
      ·
        exact qb_exit (fun σ h => qj_wk (ρ' := [none, none, none, none, none]) (qw_n (qw_n (qw_n (qw_n (qw_n (qw_0)))))) h)
      ·
        refine qb_aload_n hX 9 rfl rfl ?_
        refine qb_get hX 10 rfl fl_Press_51 hthis rfl (fun x3 => ?_)
        refine qb_iconst hX 11 (-1) rfl (by decide) ?_
        refine qb_icne hX 12 110 rfl (by decide) ?_ ?_
        ·
          exact qb_exit (fun σ h => qj_wk (ρ' := [none, none, none, none, none]) (qw_n (qw_n (qw_n (qw_n (qw_n (qw_0)))))) h)
        ·
          refine qb_aload_n hX 13 rfl rfl ?_
          refine qb_getR hX 14 rfl fl_Press_29 hthis rfl ?_
          refine qb_iload_n hX 15 rfl rfl ?_
          refine qb_aload_n hX 16 rfl rfl ?_
          refine qb_get hX 17 rfl fl_Press_92 hthis rfl (fun x4 => ?_)
          refine qb_aload_n hX 18 rfl rfl ?_
          refine qb_get hX 19 rfl fl_Press_95 hthis rfl (fun x5 => ?_)
          refine qb_aload_n hX 20 rfl rfl ?_
          refine qb_get hX 21 rfl fl_Press_76 hthis rfl (fun x6 => ?_)
          refine qb_callI hX 22 rfl cv_Press_122 (jm_Fitter_leastFrom (qk_GI hX) (qm_rf this 2) p1 x4 x5 x6 (kf_Press_2 hthis) ) (ci := 0) (kf_Press_2 hthis) ⟨rfl, rfl, rfl, by decide, by decide⟩ rfl (by exact Nat.le_of_ble_eq_true rfl) (fun x7 => ?_)
          refine qb_istore hX 23 ([some (.ref (qx_ad X this)), some (.int p1), some (.int s2.1), some (.int s2.2), some (.int x7)]) rfl (by decide) rfl ?_
          refine qb_iload hX 24 rfl rfl ?_
          refine qb_bipush hX 25 (-2) rfl (by decide) ?_
          refine qb_join 104 (fun s8 => [some (.ref (qx_ad X this)), some (.int p1), some (.int s8), some (.int s2.2), none]) (fun s8 => []) ?_ ?_
          ·
            refine qb_iceq hX 26 74 rfl (by decide) ?_ ?_
            ·
              refine qb_aload_n hX 40 rfl rfl ?_
              refine qb_iload_n hX 41 rfl rfl ?_
              refine qb_callI hX 42 rfl cv_Press_130 (jm_Press_fill (qk_GI hX) this p1 hthis ) (ci := 3) hthis ⟨rfl, rfl, rfl, by decide, by decide⟩ rfl (by exact Nat.le_of_ble_eq_true rfl) (fun x9 => ?_)
              refine qb_join2 100 (fun s10 => [some (.ref (qx_ad X this)), some (.int p1), some (.int s2.1), some (.int s2.2), none]) (fun s10 => []) ?_ ?_
              ·
                refine qb_ifne hX 43 100 rfl (by decide) ?_ ?_
                ·
                  exact qb_exit (fun σ h => qj_wk (ρ' := [some (.ref (qx_ad X this)), some (.int p1), some (.int s2.1), some (.int s2.2), none]) (qw_s (qw_s (qw_s (qw_s (qw_n (qw_0)))))) h)
                ·
                  refine qb_aload_n hX 44 rfl rfl ?_
                  refine qb_callI hX 45 rfl cv_Press_115 (jm_Press_pageIsFree (qk_GI hX) this  hthis ) (ci := 3) hthis ⟨rfl, rfl, rfl, by decide, by decide⟩ rfl (by exact Nat.le_of_ble_eq_true rfl) (fun x11 => ?_)
                  refine qb_ifeq hX 46 100 rfl (by decide) ?_ ?_
                  ·
                    exact qb_exit (fun σ h => qj_wk (ρ' := [some (.ref (qx_ad X this)), some (.int p1), some (.int s2.1), some (.int s2.2), none]) (qw_s (qw_s (qw_s (qw_s (qw_n (qw_0)))))) h)
                  ·
                    refine qb_aload_n hX 47 rfl rfl ?_
                    refine qb_aload_n hX 48 rfl rfl ?_
                    refine qb_get hX 49 rfl fl_Press_92 hthis rfl (fun x12 => ?_)
                    refine qb_put hX 50 rfl fp_Press_51 hthis ?_
                    exact qb_exit (fun σ h => qj_goto hX 51 rfl (by decide) (qj_wk (ρ' := [some (.ref (qx_ad X this)), some (.int p1), some (.int s2.1), some (.int s2.2), none]) (qw_s (qw_s (qw_s (qw_s (qw_n (qw_0)))))) h))
              · intro s10
                refine qb_aload_n hX 52 rfl rfl ?_
                refine qb_callV hX 53 rfl cv_Press_119 (jm_Press_turnPage (qk_GI hX) this  hthis ) (ci := 3) hthis ⟨rfl, rfl, rfl, by decide, by decide⟩ rfl (by exact Nat.le_of_ble_eq_true rfl) ?_
                exact qb_exit (fun σ h => qj_wk (ρ' := [some (.ref (qx_ad X this)), some (.int p1), some (.int s2.1), some (.int s2.2), none]) (qw_s (qw_s (qw_s (qw_s (qw_n (qw_0)))))) h)
            ·
              refine qb_aload_n hX 27 rfl rfl ?_
              refine qb_iload_n hX 28 rfl rfl ?_
              refine qb_iload hX 29 rfl rfl ?_
              refine qb_callV hX 30 rfl cv_Press_126 (jm_Press_level (qk_GI hX) this p1 x7 hthis ) (ci := 3) hthis ⟨rfl, rfl, rfl, by decide, by decide⟩ rfl (by exact Nat.le_of_ble_eq_true rfl) ?_
              refine qb_aload_n hX 31 rfl rfl ?_
              refine qb_dup hX 32 rfl rfl ?_
              refine qb_get hX 33 rfl fl_Press_76 hthis rfl (fun x13 => ?_)
              refine qb_iload hX 34 rfl rfl ?_
              refine qb_isub hX 35 rfl ?_
              refine qb_put hX 36 rfl fp_Press_76 hthis ?_
              refine qb_iconst hX 37 1 rfl (by decide) ?_
              refine qb_istore_n hX 38 ([some (.ref (qx_ad X this)), some (.int p1), some (.int 1), some (.int s2.2), some (.int x7)]) rfl (by decide) rfl ?_
              exact qb_exit (fun σ h => qj_goto hX 39 rfl (by decide) (qj_wk (ρ' := [some (.ref (qx_ad X this)), some (.int p1), some (.int 1), some (.int s2.2), none]) (qw_s (qw_s (qw_s (qw_s (qw_n (qw_0)))))) h))
          · intro s8
            refine qb_iinc hX 54 1 (fun x14 => [some (.ref (qx_ad X this)), some (.int p1), some (.int s8), some (.int x14), none]) rfl (by decide) (by decide) rfl (fun _ => rfl) (fun x14 => ?_)
            exact qb_exit (fun σ h => qj_goto hX 55 rfl (by decide) (qj_wk (ρ' := [some (.ref (qx_ad X this)), some (.int p1), some (.int s8), some (.int x14), none]) (qw_s (qw_s (qw_s (qw_s (qw_n (qw_0)))))) h))
  · intro s1
    exact qb_vret hX 56 rfl hR (fun _ h => h)
theorem jm_Press_pourSection {l : Launch} {G : qm_G} (hG : qm_GI G) (this : Nat) (p1 : Int32) (hthis : (qm_kd this).1 = 13) : qm_MV l G jy_Press_pourSection prog_5_method_9_code 5 4 109 [.ref (G.1 this), .int p1] (jf_Press_pourSection this p1) :=
  qm_metV (by decide +kernel) jd_Press_pourSection (fun v hv => by simp only [List.mem_cons, List.not_mem_nil, or_false] at hv; rcases hv with rfl | rfl <;> rfl) (by exact Nat.le_of_ble_eq_true rfl) hG (fun X hl hg hX σ0 hR => by subst hl; subst hg; exact jb_Press_pourSection hX hR this p1 hthis)
def jl_Press_answer : List qm_I := [(0, .aload_n 0, 1, 1), (1, .getfield 51, 3, 4), (4, .iconst (-1), 1, 5), (5, .if_icmp .eq 11, 3, 8), (8, .bipush (-2), 2, 10), (10, .aload_n 0, 1, 11), (11, .getfield 51, 3, 14), (14, .isub, 1, 15), (15, .ireturn, 1, 16), (16, .aload_n 0, 1, 17), (17, .getfield 20, 3, 20), (20, .getfield 82, 3, 23), (23, .ifCond .ne 7, 3, 26), (26, .iconst 0, 1, 27), (27, .goto 9, 3, 30), (30, .aload_n 0, 1, 31), (31, .getfield 67, 3, 34), (34, .iconst 1, 1, 35), (35, .iadd, 1, 36), (36, .ireturn, 1, 37)]
theorem jd_Press_answer : qm_D prog_5_method_5_code jl_Press_answer := qm_D_of (by decide +kernel)
noncomputable def jf_Press_answer (this : Nat) : qm_M Int32 :=
  mB (mGt this 9) fun x1 =>
  if x1 = (-1) then
    mB (mGt (qm_rf this 1) 1) fun x2 =>
    if ¬ x2 = 0 then
      mB (mGt this 5) fun x3 =>
      mP (x3 + 1)
    else
      mP 0
  else
    mB (mGt this 9) fun x4 =>
    mP ((-2) - x4)
set_option maxRecDepth 20000 in
set_option maxHeartbeats 4000000 in
theorem jb_Press_answer {X : qm_X} (hX : qm_ok X qr_Press prog_5_method_5_code 1 0 0 jl_Press_answer) {r0 : Int32} {σ0 : qm_Mem} (hR : qm_RI X r0 σ0 .int) (this : Nat) (hthis : (qm_kd this).1 = 13) : qm_B X (jf_Press_answer this) 0 [some (.ref (qx_ad X this))] [] (fun r σ1 => r = r0 ∧ σ1 = σ0) := by
  unfold jf_Press_answer
  refine qb_aload_n hX 0 rfl rfl ?_
  refine qb_get hX 1 rfl fl_Press_51 hthis rfl (fun x1 => ?_)
  refine qb_iconst hX 2 (-1) rfl (by decide) ?_
  refine qb_iceq hX 3 16 rfl (by decide) ?_ ?_
  ·
    refine qb_aload_n hX 9 rfl rfl ?_
    refine qb_getR hX 10 rfl fl_Press_20 hthis rfl ?_
    refine qb_get hX 11 rfl fl_Press_82 (kf_Press_1 hthis) rfl (fun x2 => ?_)
    refine qb_ifne hX 12 30 rfl (by decide) ?_ ?_
    ·
      refine qb_aload_n hX 15 rfl rfl ?_
      refine qb_get hX 16 rfl fl_Press_67 hthis rfl (fun x3 => ?_)
      refine qb_iconst hX 17 1 rfl (by decide) ?_
      refine qb_iadd hX 18 rfl ?_
      exact qb_iret hX 19 rfl hR (fun _ h => h)
    ·
      refine qb_iconst hX 13 0 rfl (by decide) ?_
      refine qb_goto hX 14 (tgt := 36) rfl (by decide) ?_
      exact qb_iret hX 19 rfl hR (fun _ h => h)
  ·
    refine qb_bipush hX 4 (-2) rfl (by decide) ?_
    refine qb_aload_n hX 5 rfl rfl ?_
    refine qb_get hX 6 rfl fl_Press_51 hthis rfl (fun x4 => ?_)
    refine qb_isub hX 7 rfl ?_
    exact qb_iret hX 8 rfl hR (fun _ h => h)
theorem jm_Press_answer {l : Launch} {G : qm_G} (hG : qm_GI G) (this : Nat) (hthis : (qm_kd this).1 = 13) : qm_MI l G jy_Press_answer prog_5_method_5_code 1 (some .int) 0 0 [.ref (G.1 this)] (jf_Press_answer this) :=
  qm_metI (by decide +kernel) jd_Press_answer (fun v hv => by simp only [List.mem_cons, List.not_mem_nil, or_false] at hv; rcases hv with rfl <;> rfl) (by exact Nat.le_of_ble_eq_true rfl) hG rfl (fun X hl hg hX r0 σ0 hR => by subst hl; subst hg; exact jb_Press_answer hX hR this hthis)
def jl_Press_pourAll : List qm_I := [(0, .aload_n 0, 1, 1), (1, .iconst 0, 1, 2), (2, .putfield 64, 3, 5), (5, .aload_n 0, 1, 6), (6, .iconst 0, 1, 7), (7, .putfield 67, 3, 10), (10, .aload_n 0, 1, 11), (11, .aload_n 0, 1, 12), (12, .getfield 9, 3, 15), (15, .iconst 1, 1, 16), (16, .invokevirtual 70, 3, 19), (19, .putfield 76, 3, 22), (22, .aload_n 0, 1, 23), (23, .iconst (-1), 1, 24), (24, .putfield 51, 3, 27), (27, .aload_n 0, 1, 28), (28, .iconst 0, 1, 29), (29, .putfield 79, 3, 32), (32, .iconst 0, 1, 33), (33, .istore_n 1, 1, 34), (34, .iload_n 1, 1, 35), (35, .aload_n 0, 1, 36), (36, .getfield 20, 3, 39), (39, .getfield 82, 3, 42), (42, .if_icmp .ge 77, 3, 45), (45, .aload_n 0, 1, 46), (46, .getfield 51, 3, 49), (49, .iconst (-1), 1, 50), (50, .if_icmp .ne 69, 3, 53), (53, .aload_n 0, 1, 54), (54, .aload_n 0, 1, 55), (55, .getfield 20, 3, 58), (58, .getfield 85, 3, 61), (61, .iload_n 1, 1, 62), (62, .invokestatic 88, 3, 65), (65, .putfield 92, 3, 68), (68, .aload_n 0, 1, 69), (69, .iconst 0, 1, 70), (70, .putfield 95, 3, 73), (73, .iload_n 1, 1, 74), (74, .ifCond .le 8, 3, 77), (77, .aload_n 0, 1, 78), (78, .iload_n 1, 1, 79), (79, .invokevirtual 98, 3, 82), (82, .aload_n 0, 1, 83), (83, .getfield 51, 3, 86), (86, .iconst (-1), 1, 87), (87, .if_icmp .ne 26, 3, 90), (90, .aload_n 0, 1, 91), (91, .getfield 92, 3, 94), (94, .aload_n 0, 1, 95), (95, .getfield 20, 3, 98), (98, .getfield 102, 3, 101), (101, .iload_n 1, 1, 102), (102, .invokestatic 88, 3, 105), (105, .if_icmp .ge 8, 3, 108), (108, .aload_n 0, 1, 109), (109, .iload_n 1, 1, 110), (110, .invokevirtual 105, 3, 113), (113, .iinc 1 1, 3, 116), (116, .goto (-82), 3, 119), (119, .aload_n 0, 1, 120), (120, .invokevirtual 108, 3, 123), (123, .ireturn, 1, 124)]
theorem jd_Press_pourAll : qm_D prog_5_method_4_code jl_Press_pourAll := qm_D_of (by decide +kernel)
noncomputable def jf_Press_pourAll (this : Nat) : qm_M Int32 :=
  mB (mPt this 4 0) fun _ =>
  mB (mPt this 5 0) fun _ =>
  mB (jf_Run_setting (qm_rf this 0) 1) fun x1 =>
  mB (mPt this 6 x1) fun _ =>
  mB (mPt this 9 (-1)) fun _ =>
  mB (mPt this 10 0) fun _ =>
  mB (α := Unit) (
    mW (S := Int32) (α := Unit) (fun s3 =>
      mB (mGt (qm_rf this 1) 1) fun x4 =>
      if x4 ≤ s3 then
        mP (Sum.inr ())
      else
        mB (mGt this 9) fun x5 =>
        if ¬ x5 = (-1) then
          mP (Sum.inr ())
        else
          mB (jf_Top_at (qm_rf (qm_rf this 1) 16) s3) fun x6 =>
          mB (mPt this 7 x6) fun _ =>
          mB (mPt this 8 0) fun _ =>
          mB (α := Unit) (
            if s3 ≤ 0 then
              mP ()
            else
              mB (jf_Press_putSpan this s3) fun _ =>
              mP ()) fun s7 =>
          mB (mGt this 9) fun x8 =>
          mB (α := Unit) (
            if ¬ x8 = (-1) then
              mP ()
            else
              mB (mGt this 7) fun x10 =>
              mB (jf_Top_at (qm_rf (qm_rf this 1) 17) s3) fun x11 =>
              if x11 ≤ x10 then
                mP ()
              else
                mB (jf_Press_pourSection this s3) fun _ =>
                mP ()) fun s9 =>
          mB (mP (s3 + 1)) fun x12 =>
          mP (Sum.inl x12)) 0) fun s2 =>
  mB (jf_Press_answer this) fun x13 =>
  mP x13
set_option maxRecDepth 20000 in
set_option maxHeartbeats 4000000 in
theorem jb_Press_pourAll {X : qm_X} (hX : qm_ok X qr_Press prog_5_method_4_code 2 5 133 jl_Press_pourAll) {r0 : Int32} {σ0 : qm_Mem} (hR : qm_RI X r0 σ0 .int) (this : Nat) (hthis : (qm_kd this).1 = 13) : qm_B X (jf_Press_pourAll this) 0 [some (.ref (qx_ad X this)), none] [] (fun r σ1 => r = r0 ∧ σ1 = σ0) := by
  unfold jf_Press_pourAll
  refine qb_aload_n hX 0 rfl rfl ?_
  refine qb_iconst hX 1 0 rfl (by decide) ?_
  refine qb_put hX 2 rfl fp_Press_64 hthis ?_
  refine qb_aload_n hX 3 rfl rfl ?_
  refine qb_iconst hX 4 0 rfl (by decide) ?_
  refine qb_put hX 5 rfl fp_Press_67 hthis ?_
  refine qb_aload_n hX 6 rfl rfl ?_
  refine qb_aload_n hX 7 rfl rfl ?_
  refine qb_getR hX 8 rfl fl_Press_9 hthis rfl ?_
  refine qb_iconst hX 9 1 rfl (by decide) ?_
  refine qb_callI hX 10 rfl cv_Press_70 (jm_Run_setting (qk_GI hX) (qm_rf this 0) 1 (kf_Press_0 hthis) ) (ci := 4) (kf_Press_0 hthis) ⟨rfl, rfl, rfl, by decide, by decide⟩ rfl (by exact Nat.le_of_ble_eq_true rfl) (fun x1 => ?_)
  refine qb_put hX 11 rfl fp_Press_76 hthis ?_
  refine qb_aload_n hX 12 rfl rfl ?_
  refine qb_iconst hX 13 (-1) rfl (by decide) ?_
  refine qb_put hX 14 rfl fp_Press_51 hthis ?_
  refine qb_aload_n hX 15 rfl rfl ?_
  refine qb_iconst hX 16 0 rfl (by decide) ?_
  refine qb_put hX 17 rfl fp_Press_79 hthis ?_
  refine qb_iconst hX 18 0 rfl (by decide) ?_
  refine qb_istore_n hX 19 ([some (.ref (qx_ad X this)), some (.int 0)]) rfl (by decide) rfl ?_
  refine qb_join 119 (fun s2 => [some (.ref (qx_ad X this)), none]) (fun s2 => []) ?_ ?_
  ·
    refine qb_loopw (0) (fun s3 => [some (.ref (qx_ad X this)), some (.int s3)]) (qw_s (qw_s (qw_0))) (fun s3 => ?_)
    refine qb_iload_n hX 20 rfl rfl ?_
    refine qb_aload_n hX 21 rfl rfl ?_
    refine qb_getR hX 22 rfl fl_Press_20 hthis rfl ?_
    refine qb_get hX 23 rfl fl_Press_82 (kf_Press_1 hthis) rfl (fun x4 => ?_)
    refine qb_icge hX 24 119 rfl (by decide) ?_ ?_
    ·
      exact qb_exit (fun σ h => qj_wk (ρ' := [some (.ref (qx_ad X this)), none]) (qw_s (qw_n (qw_0))) h)
    ·
      refine qb_aload_n hX 25 rfl rfl ?_
      refine qb_get hX 26 rfl fl_Press_51 hthis rfl (fun x5 => ?_)
      refine qb_iconst hX 27 (-1) rfl (by decide) ?_
      refine qb_icne hX 28 119 rfl (by decide) ?_ ?_
      ·
        exact qb_exit (fun σ h => qj_wk (ρ' := [some (.ref (qx_ad X this)), none]) (qw_s (qw_n (qw_0))) h)
      ·
        refine qb_aload_n hX 29 rfl rfl ?_
        refine qb_aload_n hX 30 rfl rfl ?_
        refine qb_getR hX 31 rfl fl_Press_20 hthis rfl ?_
        refine qb_getR hX 32 rfl fl_Press_85 (kf_Press_1 hthis) rfl ?_
        refine qb_iload_n hX 33 rfl rfl ?_
        refine qb_calNI hX 34 rfl cv_Press_88 (jm_Top_at (qk_GI hX) (qm_rf (qm_rf this 1) 16) s3 (kf_Flow_16 (kf_Press_1 hthis))) ⟨rfl, by decide, by decide⟩ rfl (by exact Nat.le_of_ble_eq_true rfl) (fun x6 => ?_)
        refine qb_put hX 35 rfl fp_Press_92 hthis ?_
        refine qb_aload_n hX 36 rfl rfl ?_
        refine qb_iconst hX 37 0 rfl (by decide) ?_
        refine qb_put hX 38 rfl fp_Press_95 hthis ?_
        refine qb_iload_n hX 39 rfl rfl ?_
        refine qb_join 82 (fun s7 => [some (.ref (qx_ad X this)), some (.int s3)]) (fun s7 => []) ?_ ?_
        ·
          refine qb_ifle hX 40 82 rfl (by decide) ?_ ?_
          ·
            exact qb_exit (fun σ h => qj_wk (ρ' := [some (.ref (qx_ad X this)), some (.int s3)]) (qw_s (qw_s (qw_0))) h)
          ·
            refine qb_aload_n hX 41 rfl rfl ?_
            refine qb_iload_n hX 42 rfl rfl ?_
            refine qb_callV hX 43 rfl cv_Press_98 (jm_Press_putSpan (qk_GI hX) this s3 hthis ) (ci := 3) hthis ⟨rfl, rfl, rfl, by decide, by decide⟩ rfl (by exact Nat.le_of_ble_eq_true rfl) ?_
            exact qb_exit (fun σ h => qj_wk (ρ' := [some (.ref (qx_ad X this)), some (.int s3)]) (qw_s (qw_s (qw_0))) h)
        · intro s7
          refine qb_aload_n hX 44 rfl rfl ?_
          refine qb_get hX 45 rfl fl_Press_51 hthis rfl (fun x8 => ?_)
          refine qb_iconst hX 46 (-1) rfl (by decide) ?_
          refine qb_join 113 (fun s9 => [some (.ref (qx_ad X this)), some (.int s3)]) (fun s9 => []) ?_ ?_
          ·
            refine qb_icne hX 47 113 rfl (by decide) ?_ ?_
            ·
              exact qb_exit (fun σ h => qj_wk (ρ' := [some (.ref (qx_ad X this)), some (.int s3)]) (qw_s (qw_s (qw_0))) h)
            ·
              refine qb_aload_n hX 48 rfl rfl ?_
              refine qb_get hX 49 rfl fl_Press_92 hthis rfl (fun x10 => ?_)
              refine qb_aload_n hX 50 rfl rfl ?_
              refine qb_getR hX 51 rfl fl_Press_20 hthis rfl ?_
              refine qb_getR hX 52 rfl fl_Press_102 (kf_Press_1 hthis) rfl ?_
              refine qb_iload_n hX 53 rfl rfl ?_
              refine qb_calNI hX 54 rfl cv_Press_88 (jm_Top_at (qk_GI hX) (qm_rf (qm_rf this 1) 17) s3 (kf_Flow_17 (kf_Press_1 hthis))) ⟨rfl, by decide, by decide⟩ rfl (by exact Nat.le_of_ble_eq_true rfl) (fun x11 => ?_)
              refine qb_icge hX 55 113 rfl (by decide) ?_ ?_
              ·
                exact qb_exit (fun σ h => qj_wk (ρ' := [some (.ref (qx_ad X this)), some (.int s3)]) (qw_s (qw_s (qw_0))) h)
              ·
                refine qb_aload_n hX 56 rfl rfl ?_
                refine qb_iload_n hX 57 rfl rfl ?_
                refine qb_callV hX 58 rfl cv_Press_105 (jm_Press_pourSection (qk_GI hX) this s3 hthis ) (ci := 3) hthis ⟨rfl, rfl, rfl, by decide, by decide⟩ rfl (by exact Nat.le_of_ble_eq_true rfl) ?_
                exact qb_exit (fun σ h => qj_wk (ρ' := [some (.ref (qx_ad X this)), some (.int s3)]) (qw_s (qw_s (qw_0))) h)
          · intro s9
            refine qb_iinc hX 59 1 (fun x12 => [some (.ref (qx_ad X this)), some (.int x12)]) rfl (by decide) (by decide) rfl (fun _ => rfl) (fun x12 => ?_)
            exact qb_exit (fun σ h => qj_goto hX 60 rfl (by decide) (qj_wk (ρ' := [some (.ref (qx_ad X this)), some (.int x12)]) (qw_s (qw_s (qw_0))) h))
  · intro s2
    refine qb_aload_n hX 61 rfl rfl ?_
    refine qb_callI hX 62 rfl cv_Press_108 (jm_Press_answer (qk_GI hX) this  hthis ) (ci := 3) hthis ⟨rfl, rfl, rfl, by decide, by decide⟩ rfl (by exact Nat.le_of_ble_eq_true rfl) (fun x13 => ?_)
    exact qb_iret hX 63 rfl hR (fun _ h => h)
theorem jm_Press_pourAll {l : Launch} {G : qm_G} (hG : qm_GI G) (this : Nat) (hthis : (qm_kd this).1 = 13) : qm_MI l G jy_Press_pourAll prog_5_method_4_code 2 (some .int) 5 133 [.ref (G.1 this)] (jf_Press_pourAll this) :=
  qm_metI (by decide +kernel) jd_Press_pourAll (fun v hv => by simp only [List.mem_cons, List.not_mem_nil, or_false] at hv; rcases hv with rfl <;> rfl) (by exact Nat.le_of_ble_eq_true rfl) hG rfl (fun X hl hg hX r0 σ0 hR => by subst hl; subst hg; exact jb_Press_pourAll hX hR this hthis)
def jl_Press_cell : List qm_I := [(0, .iload_n 1, 1, 1), (1, .ifCond .lt 33, 3, 4), (4, .iload_n 1, 1, 5), (5, .aload_n 0, 1, 6), (6, .getfield 41, 3, 9), (9, .arraylength, 1, 10), (10, .if_icmp .ge 24, 3, 13), (13, .iload_n 1, 1, 14), (14, .aload_n 0, 1, 15), (15, .getfield 64, 3, 18), (18, .if_icmp .ge 16, 3, 21), (21, .aload_n 0, 1, 22), (22, .getfield 41, 3, 25), (25, .iload_n 1, 1, 26), (26, .aaload, 1, 27), (27, .iload_n 2, 1, 28), (28, .invokestatic 88, 3, 31), (31, .goto 4, 3, 34), (34, .iconst 0, 1, 35), (35, .ireturn, 1, 36)]
theorem jd_Press_cell : qm_D prog_5_method_13_code jl_Press_cell := qm_D_of (by decide +kernel)
noncomputable def jf_Press_cell (this : Nat) (p1 : Int32) (p2 : Int32) : qm_M Int32 :=
  if p1 < 0 then
    mP 0
  else
    if (Int32.ofNat (qm_kd (qm_rf this 3)).2) ≤ p1 then
      mP 0
    else
      mB (mGt this 4) fun x1 =>
      if x1 ≤ p1 then
        mP 0
      else
        mB (mLr (qm_rf this 3) p1) fun r2 =>
        mB (jf_Top_at r2 p2) fun x3 =>
        mP x3
set_option maxRecDepth 20000 in
set_option maxHeartbeats 4000000 in
theorem jb_Press_cell {X : qm_X} (hX : qm_ok X qr_Press prog_5_method_13_code 3 1 21 jl_Press_cell) {r0 : Int32} {σ0 : qm_Mem} (hR : qm_RI X r0 σ0 .int) (this : Nat) (p1 : Int32) (p2 : Int32) (hthis : (qm_kd this).1 = 13) : qm_B X (jf_Press_cell this p1 p2) 0 [some (.ref (qx_ad X this)), some (.int p1), some (.int p2)] [] (fun r σ1 => r = r0 ∧ σ1 = σ0) := by
  unfold jf_Press_cell
  refine qb_iload_n hX 0 rfl rfl ?_
  refine qb_iflt hX 1 34 rfl (by decide) ?_ ?_
  ·
    refine qb_iconst hX 18 0 rfl (by decide) ?_
    exact qb_iret hX 19 rfl hR (fun _ h => h)
  ·
    refine qb_iload_n hX 2 rfl rfl ?_
    refine qb_aload_n hX 3 rfl rfl ?_
    refine qb_getR hX 4 rfl fl_Press_41 hthis rfl ?_
    refine qb_alenR hX 5 (Int32.ofNat (qm_kd (qm_rf this 3)).2) rfl (Or.inl (kf_Press_3 hthis)) rfl ?_
    refine qb_icge hX 6 34 rfl (by decide) ?_ ?_
    ·
      refine qb_iconst hX 18 0 rfl (by decide) ?_
      exact qb_iret hX 19 rfl hR (fun _ h => h)
    ·
      refine qb_iload_n hX 7 rfl rfl ?_
      refine qb_aload_n hX 8 rfl rfl ?_
      refine qb_get hX 9 rfl fl_Press_64 hthis rfl (fun x1 => ?_)
      refine qb_icge hX 10 34 rfl (by decide) ?_ ?_
      ·
        refine qb_iconst hX 18 0 rfl (by decide) ?_
        exact qb_iret hX 19 rfl hR (fun _ h => h)
      ·
        refine qb_aload_n hX 11 rfl rfl ?_
        refine qb_getR hX 12 rfl fl_Press_41 hthis rfl ?_
        refine qb_iload_n hX 13 rfl rfl ?_
        refine qb_aald hX 14 rfl (Or.inl (kf_Press_3 hthis)) (ka_4 (kf_Press_3 hthis)) (fun r2 hr2 => ?_)
        refine qb_iload_n hX 15 rfl rfl ?_
        refine qb_calNI hX 16 rfl cv_Press_88 (jm_Top_at (qk_GI hX) r2 p2 hr2) ⟨rfl, by decide, by decide⟩ rfl (by exact Nat.le_of_ble_eq_true rfl) (fun x3 => ?_)
        refine qb_goto hX 17 (tgt := 35) rfl (by decide) ?_
        exact qb_iret hX 19 rfl hR (fun _ h => h)
theorem jm_Press_cell {l : Launch} {G : qm_G} (hG : qm_GI G) (this : Nat) (p1 : Int32) (p2 : Int32) (hthis : (qm_kd this).1 = 13) : qm_MI l G jy_Press_cell prog_5_method_13_code 3 (some .int) 1 21 [.ref (G.1 this), .int p1, .int p2] (jf_Press_cell this p1 p2) :=
  qm_metI (by decide +kernel) jd_Press_cell (fun v hv => by simp only [List.mem_cons, List.not_mem_nil, or_false] at hv; rcases hv with rfl | rfl | rfl <;> rfl) (by exact Nat.le_of_ble_eq_true rfl) hG rfl (fun X hl hg hX r0 σ0 hR => by subst hl; subst hg; exact jb_Press_cell hX hR this p1 p2 hthis)
