def jl_Model_keepsAside : List qm_I := [(0, .iconst 0, 1, 1), (1, .istore_n 1, 1, 2), (2, .iload_n 1, 1, 3), (3, .sipush 265, 3, 6), (6, .if_icmp .ge 21, 3, 9), (9, .aload_n 0, 1, 10), (10, .getfield 23, 3, 13), (13, .iload_n 1, 1, 14), (14, .aload_n 0, 1, 15), (15, .getfield 7, 3, 18), (18, .iload_n 1, 1, 19), (19, .iaload, 1, 20), (20, .iastore, 1, 21), (21, .iinc 1 1, 3, 24), (24, .goto (-22), 3, 27), (27, .return_, 1, 28)]
theorem jd_Model_keepsAside : qm_D prog_11_method_57_code jl_Model_keepsAside := qm_D_of (by decide +kernel)
noncomputable def jf_Model_keepsAside (this : Nat) : qm_M Unit :=
  mB (α := Unit) (
    mW (S := Int32) (α := Unit) (fun s2 =>
      if 265 ≤ s2 then
        mP (Sum.inr ())
      else
        mB (mLd (qm_rf this 0) s2) fun x3 =>
        mB (mSt (qm_rf this 5) s2 x3) fun _ =>
        mB (mP (s2 + 1)) fun x4 =>
        mP (Sum.inl x4)) 0) fun s1 =>
  mP ()
set_option maxRecDepth 20000 in
set_option maxHeartbeats 4000000 in
theorem jb_Model_keepsAside {X : qm_X} (hX : qm_ok X qr_Model prog_11_method_57_code 2 0 0 jl_Model_keepsAside) {σ0 : qm_Mem} (hR : qm_RV X σ0) (this : Nat) (hthis : (qm_kd this).1 = 19) : qm_B X (jf_Model_keepsAside this) 0 [some (.ref (qx_ad X this)), none] [] (fun _ σ1 => σ1 = σ0) := by
  unfold jf_Model_keepsAside
  refine qb_iconst hX 0 0 rfl (by decide) ?_
  refine qb_istore_n hX 1 ([some (.ref (qx_ad X this)), some (.int 0)]) rfl (by decide) rfl ?_
  refine qb_join 27 (fun s1 => [none, none]) (fun s1 => []) ?_ ?_
  ·
    refine qb_loopw (0) (fun s2 => [some (.ref (qx_ad X this)), some (.int s2)]) (qw_s (qw_s (qw_0))) (fun s2 => ?_)
    refine qb_iload_n hX 2 rfl rfl ?_
    refine qb_sipush hX 3 265 rfl (by decide) ?_
    refine qb_icge hX 4 27 rfl (by decide) ?_ ?_
    ·
      exact qb_exit (fun σ h => qj_wk (ρ' := [none, none]) (qw_n (qw_n (qw_0))) h)
    ·
      refine qb_aload_n hX 5 rfl rfl ?_
      refine qb_getR hX 6 rfl fl_Model_23 hthis rfl ?_
      refine qb_iload_n hX 7 rfl rfl ?_
      refine qb_aload_n hX 8 rfl rfl ?_
      refine qb_getR hX 9 rfl fl_Model_7 hthis rfl ?_
      refine qb_iload_n hX 10 rfl rfl ?_
      refine qb_iald hX 11 rfl (kf_Model_0 hthis) (fun x3 => ?_)
      refine qb_iast hX 12 rfl (kf_Model_5 hthis) ?_
      refine qb_iinc hX 13 1 (fun x4 => [some (.ref (qx_ad X this)), some (.int x4)]) rfl (by decide) (by decide) rfl (fun _ => rfl) (fun x4 => ?_)
      exact qb_exit (fun σ h => qj_goto hX 14 rfl (by decide) (qj_wk (ρ' := [some (.ref (qx_ad X this)), some (.int x4)]) (qw_s (qw_s (qw_0))) h))
  · intro s1
    exact qb_vret hX 15 rfl hR (fun _ h => h)
theorem jm_Model_keepsAside {l : Launch} {G : qm_G} (hG : qm_GI G) (this : Nat) (hthis : (qm_kd this).1 = 19) : qm_MV l G jy_Model_keepsAside prog_11_method_57_code 2 0 0 [.ref (G.1 this)] (jf_Model_keepsAside this) :=
  qm_metV (by decide +kernel) jd_Model_keepsAside (fun v hv => by simp only [List.mem_cons, List.not_mem_nil, or_false] at hv; rcases hv with rfl <;> rfl) (by exact Nat.le_of_ble_eq_true rfl) hG (fun X hl hg hX σ0 hR => by subst hl; subst hg; exact jb_Model_keepsAside hX hR this hthis)
def jl_Model_putsBack : List qm_I := [(0, .iconst 0, 1, 1), (1, .istore_n 1, 1, 2), (2, .iload_n 1, 1, 3), (3, .sipush 265, 3, 6), (6, .if_icmp .ge 21, 3, 9), (9, .aload_n 0, 1, 10), (10, .getfield 7, 3, 13), (13, .iload_n 1, 1, 14), (14, .aload_n 0, 1, 15), (15, .getfield 23, 3, 18), (18, .iload_n 1, 1, 19), (19, .iaload, 1, 20), (20, .iastore, 1, 21), (21, .iinc 1 1, 3, 24), (24, .goto (-22), 3, 27), (27, .return_, 1, 28)]
theorem jd_Model_putsBack : qm_D prog_11_method_58_code jl_Model_putsBack := qm_D_of (by decide +kernel)
noncomputable def jf_Model_putsBack (this : Nat) : qm_M Unit :=
  mB (α := Unit) (
    mW (S := Int32) (α := Unit) (fun s2 =>
      if 265 ≤ s2 then
        mP (Sum.inr ())
      else
        mB (mLd (qm_rf this 5) s2) fun x3 =>
        mB (mSt (qm_rf this 0) s2 x3) fun _ =>
        mB (mP (s2 + 1)) fun x4 =>
        mP (Sum.inl x4)) 0) fun s1 =>
  mP ()
set_option maxRecDepth 20000 in
set_option maxHeartbeats 4000000 in
theorem jb_Model_putsBack {X : qm_X} (hX : qm_ok X qr_Model prog_11_method_58_code 2 0 0 jl_Model_putsBack) {σ0 : qm_Mem} (hR : qm_RV X σ0) (this : Nat) (hthis : (qm_kd this).1 = 19) : qm_B X (jf_Model_putsBack this) 0 [some (.ref (qx_ad X this)), none] [] (fun _ σ1 => σ1 = σ0) := by
  unfold jf_Model_putsBack
  refine qb_iconst hX 0 0 rfl (by decide) ?_
  refine qb_istore_n hX 1 ([some (.ref (qx_ad X this)), some (.int 0)]) rfl (by decide) rfl ?_
  refine qb_join 27 (fun s1 => [none, none]) (fun s1 => []) ?_ ?_
  ·
    refine qb_loopw (0) (fun s2 => [some (.ref (qx_ad X this)), some (.int s2)]) (qw_s (qw_s (qw_0))) (fun s2 => ?_)
    refine qb_iload_n hX 2 rfl rfl ?_
    refine qb_sipush hX 3 265 rfl (by decide) ?_
    refine qb_icge hX 4 27 rfl (by decide) ?_ ?_
    ·
      exact qb_exit (fun σ h => qj_wk (ρ' := [none, none]) (qw_n (qw_n (qw_0))) h)
    ·
      refine qb_aload_n hX 5 rfl rfl ?_
      refine qb_getR hX 6 rfl fl_Model_7 hthis rfl ?_
      refine qb_iload_n hX 7 rfl rfl ?_
      refine qb_aload_n hX 8 rfl rfl ?_
      refine qb_getR hX 9 rfl fl_Model_23 hthis rfl ?_
      refine qb_iload_n hX 10 rfl rfl ?_
      refine qb_iald hX 11 rfl (kf_Model_5 hthis) (fun x3 => ?_)
      refine qb_iast hX 12 rfl (kf_Model_0 hthis) ?_
      refine qb_iinc hX 13 1 (fun x4 => [some (.ref (qx_ad X this)), some (.int x4)]) rfl (by decide) (by decide) rfl (fun _ => rfl) (fun x4 => ?_)
      exact qb_exit (fun σ h => qj_goto hX 14 rfl (by decide) (qj_wk (ρ' := [some (.ref (qx_ad X this)), some (.int x4)]) (qw_s (qw_s (qw_0))) h))
  · intro s1
    exact qb_vret hX 15 rfl hR (fun _ h => h)
theorem jm_Model_putsBack {l : Launch} {G : qm_G} (hG : qm_GI G) (this : Nat) (hthis : (qm_kd this).1 = 19) : qm_MV l G jy_Model_putsBack prog_11_method_58_code 2 0 0 [.ref (G.1 this)] (jf_Model_putsBack this) :=
  qm_metV (by decide +kernel) jd_Model_putsBack (fun v hv => by simp only [List.mem_cons, List.not_mem_nil, or_false] at hv; rcases hv with rfl <;> rfl) (by exact Nat.le_of_ble_eq_true rfl) hG (fun X hl hg hX σ0 hR => by subst hl; subst hg; exact jb_Model_putsBack hX hR this hthis)
def jl_Model_trial : List qm_I := [(0, .iload_n 1, 1, 1), (1, .iload_n 2, 1, 2), (2, .invokestatic 301, 3, 5), (5, .ifCond .ne 5, 3, 8), (8, .iconst (-1), 1, 9), (9, .ireturn, 1, 10), (10, .aload_n 0, 1, 11), (11, .invokevirtual 304, 3, 14), (14, .aload_n 0, 1, 15), (15, .getfield 7, 3, 18), (18, .iload_n 1, 1, 19), (19, .iload_n 2, 1, 20), (20, .iastore, 1, 21), (21, .aload_n 0, 1, 22), (22, .invokevirtual 254, 3, 25), (25, .istore_n 3, 1, 26), (26, .aload_n 0, 1, 27), (27, .invokevirtual 307, 3, 30), (30, .iload_n 3, 1, 31), (31, .ireturn, 1, 32)]
theorem jd_Model_trial : qm_D prog_11_method_59_code jl_Model_trial := qm_D_of (by decide +kernel)
noncomputable def jf_Model_trial (this : Nat) (p1 : Int32) (p2 : Int32) : qm_M Int32 :=
  mB (jf_Model_isSetting p1 p2) fun x1 =>
  if ¬ x1 = 0 then
    mB (jf_Model_keepsAside this) fun _ =>
    mB (mSt (qm_rf this 0) p1 p2) fun _ =>
    mB (jf_Model_pours this) fun x2 =>
    mB (jf_Model_putsBack this) fun _ =>
    mP x2
  else
    mP (-1)
set_option maxRecDepth 20000 in
set_option maxHeartbeats 4000000 in
theorem jb_Model_trial {X : qm_X} (hX : qm_ok X qr_Model prog_11_method_59_code 4 10 248 jl_Model_trial) {r0 : Int32} {σ0 : qm_Mem} (hR : qm_RI X r0 σ0 .int) (this : Nat) (p1 : Int32) (p2 : Int32) (hthis : (qm_kd this).1 = 19) : qm_B X (jf_Model_trial this p1 p2) 0 [some (.ref (qx_ad X this)), some (.int p1), some (.int p2), none] [] (fun r σ1 => r = r0 ∧ σ1 = σ0) := by
  unfold jf_Model_trial
  refine qb_iload_n hX 0 rfl rfl ?_
  refine qb_iload_n hX 1 rfl rfl ?_
  refine qb_calSI hX 2 rfl cv_Model_301 (jm_Model_isSetting (qk_GI hX) p1 p2 ) ⟨rfl, by decide, by decide⟩ rfl (by exact Nat.le_of_ble_eq_true rfl) (fun x1 => ?_)
  refine qb_ifne hX 3 10 rfl (by decide) ?_ ?_
  ·
    refine qb_aload_n hX 6 rfl rfl ?_
    refine qb_callV hX 7 rfl cv_Model_304 (jm_Model_keepsAside (qk_GI hX) this  hthis ) (ci := 9) hthis ⟨rfl, rfl, rfl, by decide, by decide⟩ rfl (by exact Nat.le_of_ble_eq_true rfl) ?_
    refine qb_aload_n hX 8 rfl rfl ?_
    refine qb_getR hX 9 rfl fl_Model_7 hthis rfl ?_
    refine qb_iload_n hX 10 rfl rfl ?_
    refine qb_iload_n hX 11 rfl rfl ?_
    refine qb_iast hX 12 rfl (kf_Model_0 hthis) ?_
    refine qb_aload_n hX 13 rfl rfl ?_
    refine qb_callI hX 14 rfl cv_Model_254 (jm_Model_pours (qk_GI hX) this  hthis ) (ci := 9) hthis ⟨rfl, rfl, rfl, by decide, by decide⟩ rfl (by exact Nat.le_of_ble_eq_true rfl) (fun x2 => ?_)
    refine qb_istore_n hX 15 ([some (.ref (qx_ad X this)), some (.int p1), some (.int p2), some (.int x2)]) rfl (by decide) rfl ?_
    refine qb_aload_n hX 16 rfl rfl ?_
    refine qb_callV hX 17 rfl cv_Model_307 (jm_Model_putsBack (qk_GI hX) this  hthis ) (ci := 9) hthis ⟨rfl, rfl, rfl, by decide, by decide⟩ rfl (by exact Nat.le_of_ble_eq_true rfl) ?_
    refine qb_iload_n hX 18 rfl rfl ?_
    exact qb_iret hX 19 rfl hR (fun _ h => h)
  ·
    refine qb_iconst hX 4 (-1) rfl (by decide) ?_
    exact qb_iret hX 5 rfl hR (fun _ h => h)
theorem jm_Model_trial {l : Launch} {G : qm_G} (hG : qm_GI G) (this : Nat) (p1 : Int32) (p2 : Int32) (hthis : (qm_kd this).1 = 19) : qm_MI l G jy_Model_trial prog_11_method_59_code 4 (some .int) 10 248 [.ref (G.1 this), .int p1, .int p2] (jf_Model_trial this p1 p2) :=
  qm_metI (by decide +kernel) jd_Model_trial (fun v hv => by simp only [List.mem_cons, List.not_mem_nil, or_false] at hv; rcases hv with rfl | rfl | rfl <;> rfl) (by exact Nat.le_of_ble_eq_true rfl) hG rfl (fun X hl hg hX r0 σ0 hR => by subst hl; subst hg; exact jb_Model_trial hX hR this p1 p2 hthis)
def jl_Model_loosens : List qm_I := [(0, .iload_n 1, 1, 1), (1, .ifCond .ne 13, 3, 4), (4, .aload_n 0, 1, 5), (5, .getfield 7, 3, 8), (8, .iconst 2, 1, 9), (9, .iconst 1, 1, 10), (10, .iastore, 1, 11), (11, .goto 30, 3, 14), (14, .iload_n 1, 1, 15), (15, .iconst 1, 1, 16), (16, .if_icmp .ne 13, 3, 19), (19, .aload_n 0, 1, 20), (20, .getfield 7, 3, 23), (23, .iconst 3, 1, 24), (24, .iconst 1, 1, 25), (25, .iastore, 1, 26), (26, .goto 15, 3, 29), (29, .iload_n 1, 1, 30), (30, .iconst 2, 1, 31), (31, .if_icmp .ne 10, 3, 34), (34, .aload_n 0, 1, 35), (35, .getfield 7, 3, 38), (38, .iconst 4, 1, 39), (39, .iconst 0, 1, 40), (40, .iastore, 1, 41), (41, .iconst 0, 1, 42), (42, .istore_n 2, 1, 43), (43, .iload_n 2, 1, 44), (44, .aload_n 0, 1, 45), (45, .invokevirtual 140, 3, 48), (48, .if_icmp .ge 38, 3, 51), (51, .iload_n 1, 1, 52), (52, .iconst 2, 1, 53), (53, .if_icmp .le 33, 3, 56), (56, .aload_n 0, 1, 57), (57, .getfield 7, 3, 60), (60, .bipush 9, 2, 62), (62, .bipush 16, 2, 64), (64, .iload_n 2, 1, 65), (65, .imul, 1, 66), (66, .iadd, 1, 67), (67, .iload_n 1, 1, 68), (68, .iconst 3, 1, 69), (69, .if_icmp .ne 7, 3, 72), (72, .iconst 4, 1, 73), (73, .goto 4, 3, 76), (76, .iconst 5, 1, 77), (77, .iadd, 1, 78), (78, .iconst 0, 1, 79), (79, .iastore, 1, 80), (80, .iinc 2 1, 3, 83), (83, .goto (-40), 3, 86), (86, .return_, 1, 87)]
theorem jd_Model_loosens : qm_D prog_11_method_60_code jl_Model_loosens := qm_D_of (by decide +kernel)
noncomputable def jf_Model_loosens (this : Nat) (p1 : Int32) : qm_M Unit :=
  mB (α := Unit) (
    if ¬ p1 = 0 then
      if ¬ p1 = 1 then
        if ¬ p1 = 2 then
          mP ()
        else
          mB (mSt (qm_rf this 0) 4 0) fun _ =>
          mP ()
      else
        mB (mSt (qm_rf this 0) 3 1) fun _ =>
        mP ()
    else
      mB (mSt (qm_rf this 0) 2 1) fun _ =>
      mP ()) fun s1 =>
  mB (α := Unit) (
    mW (S := Int32) (α := Unit) (fun s3 =>
      mB (jf_Model_blocks this) fun x4 =>
      if x4 ≤ s3 then
        mP (Sum.inr ())
      else
        if p1 ≤ 2 then
          mP (Sum.inr ())
        else
          mB (α := Int32) (
            if ¬ p1 = 3 then
              mP 5
            else
              mP 4) fun s5 =>
          mB (mSt (qm_rf this 0) ((9 + (16 * s3)) + s5) 0) fun _ =>
          mB (mP (s3 + 1)) fun x6 =>
          mP (Sum.inl x6)) 0) fun s2 =>
  mP ()
set_option maxRecDepth 20000 in
set_option maxHeartbeats 4000000 in
theorem jb_Model_loosens {X : qm_X} (hX : qm_ok X qr_Model prog_11_method_60_code 3 1 20 jl_Model_loosens) {σ0 : qm_Mem} (hR : qm_RV X σ0) (this : Nat) (p1 : Int32) (hthis : (qm_kd this).1 = 19) : qm_B X (jf_Model_loosens this p1) 0 [some (.ref (qx_ad X this)), some (.int p1), none] [] (fun _ σ1 => σ1 = σ0) := by
  unfold jf_Model_loosens
  refine qb_iload_n hX 0 rfl rfl ?_
  refine qb_join 41 (fun s1 => [some (.ref (qx_ad X this)), some (.int p1), none]) (fun s1 => []) ?_ ?_
  ·
    refine qb_ifne hX 1 14 rfl (by decide) ?_ ?_
    ·
      refine qb_iload_n hX 8 rfl rfl ?_
      refine qb_iconst hX 9 1 rfl (by decide) ?_
      refine qb_icne hX 10 29 rfl (by decide) ?_ ?_
      ·
        refine qb_iload_n hX 17 rfl rfl ?_
        refine qb_iconst hX 18 2 rfl (by decide) ?_
        refine qb_icne hX 19 41 rfl (by decide) ?_ ?_
        ·
          exact qb_exit (fun σ h => qj_wk (ρ' := [some (.ref (qx_ad X this)), some (.int p1), none]) (qw_s (qw_s (qw_n (qw_0)))) h)
        ·
          refine qb_aload_n hX 20 rfl rfl ?_
          refine qb_getR hX 21 rfl fl_Model_7 hthis rfl ?_
          refine qb_iconst hX 22 4 rfl (by decide) ?_
          refine qb_iconst hX 23 0 rfl (by decide) ?_
          refine qb_iast hX 24 rfl (kf_Model_0 hthis) ?_
          exact qb_exit (fun σ h => qj_wk (ρ' := [some (.ref (qx_ad X this)), some (.int p1), none]) (qw_s (qw_s (qw_n (qw_0)))) h)
      ·
        refine qb_aload_n hX 11 rfl rfl ?_
        refine qb_getR hX 12 rfl fl_Model_7 hthis rfl ?_
        refine qb_iconst hX 13 3 rfl (by decide) ?_
        refine qb_iconst hX 14 1 rfl (by decide) ?_
        refine qb_iast hX 15 rfl (kf_Model_0 hthis) ?_
        exact qb_exit (fun σ h => qj_goto hX 16 rfl (by decide) (qj_wk (ρ' := [some (.ref (qx_ad X this)), some (.int p1), none]) (qw_s (qw_s (qw_n (qw_0)))) h))
    ·
      refine qb_aload_n hX 2 rfl rfl ?_
      refine qb_getR hX 3 rfl fl_Model_7 hthis rfl ?_
      refine qb_iconst hX 4 2 rfl (by decide) ?_
      refine qb_iconst hX 5 1 rfl (by decide) ?_
      refine qb_iast hX 6 rfl (kf_Model_0 hthis) ?_
      exact qb_exit (fun σ h => qj_goto hX 7 rfl (by decide) (qj_wk (ρ' := [some (.ref (qx_ad X this)), some (.int p1), none]) (qw_s (qw_s (qw_n (qw_0)))) h))
  · intro s1
    refine qb_iconst hX 25 0 rfl (by decide) ?_
    refine qb_istore_n hX 26 ([some (.ref (qx_ad X this)), some (.int p1), some (.int 0)]) rfl (by decide) rfl ?_
    refine qb_join 86 (fun s2 => [none, none, none]) (fun s2 => []) ?_ ?_
    ·
      refine qb_loopw (0) (fun s3 => [some (.ref (qx_ad X this)), some (.int p1), some (.int s3)]) (qw_s (qw_s (qw_s (qw_0)))) (fun s3 => ?_)
      refine qb_iload_n hX 27 rfl rfl ?_
      refine qb_aload_n hX 28 rfl rfl ?_
      refine qb_callI hX 29 rfl cv_Model_140 (jm_Model_blocks (qk_GI hX) this  hthis ) (ci := 9) hthis ⟨rfl, rfl, rfl, by decide, by decide⟩ rfl (by exact Nat.le_of_ble_eq_true rfl) (fun x4 => ?_)
      refine qb_icge hX 30 86 rfl (by decide) ?_ ?_
      ·
        exact qb_exit (fun σ h => qj_wk (ρ' := [none, none, none]) (qw_n (qw_n (qw_n (qw_0)))) h)
      ·
        refine qb_iload_n hX 31 rfl rfl ?_
        refine qb_iconst hX 32 2 rfl (by decide) ?_
        refine qb_icle hX 33 86 rfl (by decide) ?_ ?_
        ·
          exact qb_exit (fun σ h => qj_wk (ρ' := [none, none, none]) (qw_n (qw_n (qw_n (qw_0)))) h)
        ·
          refine qb_aload_n hX 34 rfl rfl ?_
          refine qb_getR hX 35 rfl fl_Model_7 hthis rfl ?_
          refine qb_bipush hX 36 9 rfl (by decide) ?_
          refine qb_bipush hX 37 16 rfl (by decide) ?_
          refine qb_iload_n hX 38 rfl rfl ?_
          refine qb_imul hX 39 rfl ?_
          refine qb_iadd hX 40 rfl ?_
          refine qb_iload_n hX 41 rfl rfl ?_
          refine qb_iconst hX 42 3 rfl (by decide) ?_
          refine qb_join 77 (fun s5 => [some (.ref (qx_ad X this)), some (.int p1), some (.int s3)]) (fun s5 => [.int s5, .int (9 + (16 * s3)), .ref (qx_ad X (qm_rf this 0))]) ?_ ?_
          ·
            refine qb_icne hX 43 76 rfl (by decide) ?_ ?_
            ·
              refine qb_iconst hX 46 5 rfl (by decide) ?_
              exact qb_exit (fun σ h => qj_wk (ρ' := [some (.ref (qx_ad X this)), some (.int p1), some (.int s3)]) (qw_s (qw_s (qw_s (qw_0)))) h)
            ·
              refine qb_iconst hX 44 4 rfl (by decide) ?_
              exact qb_exit (fun σ h => qj_goto hX 45 rfl (by decide) (qj_wk (ρ' := [some (.ref (qx_ad X this)), some (.int p1), some (.int s3)]) (qw_s (qw_s (qw_s (qw_0)))) h))
          · intro s5
            refine qb_iadd hX 47 rfl ?_
            refine qb_iconst hX 48 0 rfl (by decide) ?_
            refine qb_iast hX 49 rfl (kf_Model_0 hthis) ?_
            refine qb_iinc hX 50 1 (fun x6 => [some (.ref (qx_ad X this)), some (.int p1), some (.int x6)]) rfl (by decide) (by decide) rfl (fun _ => rfl) (fun x6 => ?_)
            exact qb_exit (fun σ h => qj_goto hX 51 rfl (by decide) (qj_wk (ρ' := [some (.ref (qx_ad X this)), some (.int p1), some (.int x6)]) (qw_s (qw_s (qw_s (qw_0)))) h))
    · intro s2
      exact qb_vret hX 52 rfl hR (fun _ h => h)
theorem jm_Model_loosens {l : Launch} {G : qm_G} (hG : qm_GI G) (this : Nat) (p1 : Int32) (hthis : (qm_kd this).1 = 19) : qm_MV l G jy_Model_loosens prog_11_method_60_code 3 1 20 [.ref (G.1 this), .int p1] (jf_Model_loosens this p1) :=
  qm_metV (by decide +kernel) jd_Model_loosens (fun v hv => by simp only [List.mem_cons, List.not_mem_nil, or_false] at hv; rcases hv with rfl | rfl <;> rfl) (by exact Nat.le_of_ble_eq_true rfl) hG (fun X hl hg hX σ0 hR => by subst hl; subst hg; exact jb_Model_loosens hX hR this p1 hthis)
def jl_Model_costs : List qm_I := [(0, .aload_n 0, 1, 1), (1, .invokevirtual 245, 3, 4), (4, .aload_n 0, 1, 5), (5, .iload_n 1, 1, 6), (6, .invokevirtual 284, 3, 9), (9, .ifCond .eq 15, 3, 12), (12, .iload_n 2, 1, 13), (13, .i2l, 1, 14), (14, .lconst 0, 1, 15), (15, .ldc2_w 310, 3, 18), (18, .invokestatic 129, 3, 21), (21, .ifCond .ne 5, 3, 24), (24, .iconst (-1), 1, 25), (25, .ireturn, 1, 26), (26, .aload_n 0, 1, 27), (27, .iload_n 1, 1, 28), (28, .invokevirtual 292, 3, 31), (31, .istore_n 3, 1, 32), (32, .iload_n 3, 1, 33), (33, .ifCond .ge 6, 3, 36), (36, .bipush (-2), 2, 38), (38, .ireturn, 1, 39), (39, .aload_n 0, 1, 40), (40, .invokevirtual 304, 3, 43), (43, .aload_n 0, 1, 44), (44, .iload_n 2, 1, 45), (45, .invokevirtual 312, 3, 48), (48, .aload_n 0, 1, 49), (49, .invokevirtual 245, 3, 52), (52, .aload_n 0, 1, 53), (53, .iload_n 1, 1, 54), (54, .invokevirtual 292, 3, 57), (57, .istore 4, 2, 59), (59, .aload_n 0, 1, 60), (60, .invokevirtual 307, 3, 63), (63, .iload_n 3, 1, 64), (64, .iload 4, 2, 66), (66, .isub, 1, 67), (67, .ireturn, 1, 68)]
theorem jd_Model_costs : qm_D prog_11_method_61_code jl_Model_costs := qm_D_of (by decide +kernel)
noncomputable def jf_Model_costs (this : Nat) (p1 : Int32) (p2 : Int32) : qm_M Int32 :=
  mB (jf_Model_lays this) fun _ =>
  mB (jf_Model_isSection this p1) fun x1 =>
  if x1 = 0 then
    mP (-1)
  else
    mB (jf_Model_in (Int32.toInt64 p2) (0 : Int64) (4 : Int64)) fun x2 =>
    if ¬ x2 = 0 then
      mB (jf_Model_leastOf this p1) fun x3 =>
      if 0 ≤ x3 then
        mB (jf_Model_keepsAside this) fun _ =>
        mB (jf_Model_loosens this p2) fun _ =>
        mB (jf_Model_lays this) fun _ =>
        mB (jf_Model_leastOf this p1) fun x4 =>
        mB (jf_Model_putsBack this) fun _ =>
        mP (x3 - x4)
      else
        mP (-2)
    else
      mP (-1)
set_option maxRecDepth 20000 in
set_option maxHeartbeats 4000000 in
theorem jb_Model_costs {X : qm_X} (hX : qm_ok X qr_Model prog_11_method_61_code 5 8 201 jl_Model_costs) {r0 : Int32} {σ0 : qm_Mem} (hR : qm_RI X r0 σ0 .int) (this : Nat) (p1 : Int32) (p2 : Int32) (hthis : (qm_kd this).1 = 19) : qm_B X (jf_Model_costs this p1 p2) 0 [some (.ref (qx_ad X this)), some (.int p1), some (.int p2), none, none] [] (fun r σ1 => r = r0 ∧ σ1 = σ0) := by
  unfold jf_Model_costs
  refine qb_aload_n hX 0 rfl rfl ?_
  refine qb_callV hX 1 rfl cv_Model_245 (jm_Model_lays (qk_GI hX) this  hthis ) (ci := 9) hthis ⟨rfl, rfl, rfl, by decide, by decide⟩ rfl (by exact Nat.le_of_ble_eq_true rfl) ?_
  refine qb_aload_n hX 2 rfl rfl ?_
  refine qb_iload_n hX 3 rfl rfl ?_
  refine qb_callI hX 4 rfl cv_Model_284 (jm_Model_isSection (qk_GI hX) this p1 hthis ) (ci := 9) hthis ⟨rfl, rfl, rfl, by decide, by decide⟩ rfl (by exact Nat.le_of_ble_eq_true rfl) (fun x1 => ?_)
  refine qb_ifeq hX 5 24 rfl (by decide) ?_ ?_
  ·
    refine qb_iconst hX 12 (-1) rfl (by decide) ?_
    exact qb_iret hX 13 rfl hR (fun _ h => h)
  ·
    refine qb_iload_n hX 6 rfl rfl ?_
    refine qb_i2l hX 7 rfl ?_
    refine qb_lconst hX 8 0 rfl (by decide) ?_
    refine qb_ldc2w hX 9 4 rfl kl_Model_310 ?_
    refine qb_calSI hX 10 rfl cv_Model_129 (jm_Model_in (qk_GI hX) (Int32.toInt64 p2) (0 : Int64) (4 : Int64) ) ⟨rfl, by decide, by decide⟩ rfl (by exact Nat.le_of_ble_eq_true rfl) (fun x2 => ?_)
    refine qb_ifne hX 11 26 rfl (by decide) ?_ ?_
    ·
      refine qb_aload_n hX 14 rfl rfl ?_
      refine qb_iload_n hX 15 rfl rfl ?_
      refine qb_callI hX 16 rfl cv_Model_292 (jm_Model_leastOf (qk_GI hX) this p1 hthis ) (ci := 9) hthis ⟨rfl, rfl, rfl, by decide, by decide⟩ rfl (by exact Nat.le_of_ble_eq_true rfl) (fun x3 => ?_)
      refine qb_istore_n hX 17 ([some (.ref (qx_ad X this)), some (.int p1), some (.int p2), some (.int x3), none]) rfl (by decide) rfl ?_
      refine qb_iload_n hX 18 rfl rfl ?_
      refine qb_ifge hX 19 39 rfl (by decide) ?_ ?_
      ·
        refine qb_aload_n hX 22 rfl rfl ?_
        refine qb_callV hX 23 rfl cv_Model_304 (jm_Model_keepsAside (qk_GI hX) this  hthis ) (ci := 9) hthis ⟨rfl, rfl, rfl, by decide, by decide⟩ rfl (by exact Nat.le_of_ble_eq_true rfl) ?_
        refine qb_aload_n hX 24 rfl rfl ?_
        refine qb_iload_n hX 25 rfl rfl ?_
        refine qb_callV hX 26 rfl cv_Model_312 (jm_Model_loosens (qk_GI hX) this p2 hthis ) (ci := 9) hthis ⟨rfl, rfl, rfl, by decide, by decide⟩ rfl (by exact Nat.le_of_ble_eq_true rfl) ?_
        refine qb_aload_n hX 27 rfl rfl ?_
        refine qb_callV hX 28 rfl cv_Model_245 (jm_Model_lays (qk_GI hX) this  hthis ) (ci := 9) hthis ⟨rfl, rfl, rfl, by decide, by decide⟩ rfl (by exact Nat.le_of_ble_eq_true rfl) ?_
        refine qb_aload_n hX 29 rfl rfl ?_
        refine qb_iload_n hX 30 rfl rfl ?_
        refine qb_callI hX 31 rfl cv_Model_292 (jm_Model_leastOf (qk_GI hX) this p1 hthis ) (ci := 9) hthis ⟨rfl, rfl, rfl, by decide, by decide⟩ rfl (by exact Nat.le_of_ble_eq_true rfl) (fun x4 => ?_)
        refine qb_istore hX 32 ([some (.ref (qx_ad X this)), some (.int p1), some (.int p2), some (.int x3), some (.int x4)]) rfl (by decide) rfl ?_
        refine qb_aload_n hX 33 rfl rfl ?_
        refine qb_callV hX 34 rfl cv_Model_307 (jm_Model_putsBack (qk_GI hX) this  hthis ) (ci := 9) hthis ⟨rfl, rfl, rfl, by decide, by decide⟩ rfl (by exact Nat.le_of_ble_eq_true rfl) ?_
        refine qb_iload_n hX 35 rfl rfl ?_
        refine qb_iload hX 36 rfl rfl ?_
        refine qb_isub hX 37 rfl ?_
        exact qb_iret hX 38 rfl hR (fun _ h => h)
      ·
        refine qb_bipush hX 20 (-2) rfl (by decide) ?_
        exact qb_iret hX 21 rfl hR (fun _ h => h)
    ·
      refine qb_iconst hX 12 (-1) rfl (by decide) ?_
      exact qb_iret hX 13 rfl hR (fun _ h => h)
theorem jm_Model_costs {l : Launch} {G : qm_G} (hG : qm_GI G) (this : Nat) (p1 : Int32) (p2 : Int32) (hthis : (qm_kd this).1 = 19) : qm_MI l G jy_Model_costs prog_11_method_61_code 5 (some .int) 8 201 [.ref (G.1 this), .int p1, .int p2] (jf_Model_costs this p1 p2) :=
  qm_metI (by decide +kernel) jd_Model_costs (fun v hv => by simp only [List.mem_cons, List.not_mem_nil, or_false] at hv; rcases hv with rfl | rfl | rfl <;> rfl) (by exact Nat.le_of_ble_eq_true rfl) hG rfl (fun X hl hg hX r0 σ0 hR => by subst hl; subst hg; exact jb_Model_costs hX hR this p1 p2 hthis)
def jl_Model_tall : List qm_I := [(0, .iload_n 1, 1, 1), (1, .i2l, 1, 2), (2, .lconst 0, 1, 3), (3, .ldc2_w 315, 3, 6), (6, .invokestatic 129, 3, 9), (9, .ifCond .ne 5, 3, 12), (12, .iconst (-1), 1, 13), (13, .ireturn, 1, 14), (14, .aload_n 0, 1, 15), (15, .invokevirtual 304, 3, 18), (18, .bipush (-2), 2, 20), (20, .istore_n 2, 1, 21), (21, .bipush 10, 2, 23), (23, .istore_n 3, 1, 24), (24, .iload_n 3, 1, 25), (25, .sipush 400, 3, 28), (28, .if_icmp .gt 47, 3, 31), (31, .iload_n 2, 1, 32), (32, .bipush (-2), 2, 34), (34, .if_icmp .ne 41, 3, 37), (37, .aload_n 0, 1, 38), (38, .getfield 7, 3, 41), (41, .iconst 1, 1, 42), (42, .iload_n 3, 1, 43), (43, .iastore, 1, 44), (44, .aload_n 0, 1, 45), (45, .invokevirtual 254, 3, 48), (48, .istore 4, 2, 50), (50, .iload 4, 2, 52), (52, .i2l, 1, 53), (53, .lconst 0, 1, 54), (54, .iload_n 1, 1, 55), (55, .i2l, 1, 56), (56, .invokestatic 129, 3, 59), (59, .ifCond .eq 7, 3, 62), (62, .iload_n 3, 1, 63), (63, .goto 5, 3, 66), (66, .bipush (-2), 2, 68), (68, .istore_n 2, 1, 69), (69, .iinc 3 1, 3, 72), (72, .goto (-48), 3, 75), (75, .aload_n 0, 1, 76), (76, .invokevirtual 307, 3, 79), (79, .iload_n 2, 1, 80), (80, .ireturn, 1, 81)]
theorem jd_Model_tall : qm_D prog_11_method_62_code jl_Model_tall := qm_D_of (by decide +kernel)
noncomputable def jf_Model_tall (this : Nat) (p1 : Int32) : qm_M Int32 :=
  mB (jf_Model_in (Int32.toInt64 p1) (0 : Int64) (40 : Int64)) fun x1 =>
  if ¬ x1 = 0 then
    mB (jf_Model_keepsAside this) fun _ =>
    mB (α := Int32) (
      mW (S := Int32 × Int32) (α := Int32) (fun s3 =>
        if 400 < s3.2 then
          mP (Sum.inr s3.1)
        else
          if ¬ s3.1 = (-2) then
            mP (Sum.inr s3.1)
          else
            mB (mSt (qm_rf this 0) 1 s3.2) fun _ =>
            mB (jf_Model_pours this) fun x4 =>
            mB (jf_Model_in (Int32.toInt64 x4) (0 : Int64) (Int32.toInt64 p1)) fun x5 =>
            mB (α := Int32) (
              if x5 = 0 then
                mP (-2)
              else
                mP s3.2) fun s6 =>
            mB (mP (s3.2 + 1)) fun x7 =>
            mP (Sum.inl (s6, x7))) ((-2), 10)) fun s2 =>
    mB (jf_Model_putsBack this) fun _ =>
    mP s2
  else
    mP (-1)
set_option maxRecDepth 20000 in
set_option maxHeartbeats 4000000 in
theorem jb_Model_tall {X : qm_X} (hX : qm_ok X qr_Model prog_11_method_62_code 5 10 248 jl_Model_tall) {r0 : Int32} {σ0 : qm_Mem} (hR : qm_RI X r0 σ0 .int) (this : Nat) (p1 : Int32) (hthis : (qm_kd this).1 = 19) : qm_B X (jf_Model_tall this p1) 0 [some (.ref (qx_ad X this)), some (.int p1), none, none, none] [] (fun r σ1 => r = r0 ∧ σ1 = σ0) := by
  unfold jf_Model_tall
  refine qb_iload_n hX 0 rfl rfl ?_
  refine qb_i2l hX 1 rfl ?_
  refine qb_lconst hX 2 0 rfl (by decide) ?_
  refine qb_ldc2w hX 3 40 rfl kl_Model_315 ?_
  refine qb_calSI hX 4 rfl cv_Model_129 (jm_Model_in (qk_GI hX) (Int32.toInt64 p1) (0 : Int64) (40 : Int64) ) ⟨rfl, by decide, by decide⟩ rfl (by exact Nat.le_of_ble_eq_true rfl) (fun x1 => ?_)
  refine qb_ifne hX 5 14 rfl (by decide) ?_ ?_
  ·
    refine qb_aload_n hX 8 rfl rfl ?_
    refine qb_callV hX 9 rfl cv_Model_304 (jm_Model_keepsAside (qk_GI hX) this  hthis ) (ci := 9) hthis ⟨rfl, rfl, rfl, by decide, by decide⟩ rfl (by exact Nat.le_of_ble_eq_true rfl) ?_
    refine qb_bipush hX 10 (-2) rfl (by decide) ?_
    refine qb_istore_n hX 11 ([some (.ref (qx_ad X this)), some (.int p1), some (.int (-2)), none, none]) rfl (by decide) rfl ?_
    refine qb_bipush hX 12 10 rfl (by decide) ?_
    refine qb_istore_n hX 13 ([some (.ref (qx_ad X this)), some (.int p1), some (.int (-2)), some (.int 10), none]) rfl (by decide) rfl ?_
    refine qb_join 75 (fun s2 => [some (.ref (qx_ad X this)), none, some (.int s2), none, none]) (fun s2 => []) ?_ ?_
    ·
      refine qb_loopw (((-2), 10)) (fun s3 => [some (.ref (qx_ad X this)), some (.int p1), some (.int s3.1), some (.int s3.2), none]) (qw_s (qw_s (qw_s (qw_s (qw_n (qw_0)))))) (fun s3 => ?_)
      refine qb_iload_n hX 14 rfl rfl ?_
      refine qb_sipush hX 15 400 rfl (by decide) ?_
      refine qb_icgt hX 16 75 rfl (by decide) ?_ ?_
      ·
        exact qb_exit (fun σ h => qj_wk (ρ' := [some (.ref (qx_ad X this)), none, some (.int s3.1), none, none]) (qw_s (qw_n (qw_s (qw_n (qw_n (qw_0)))))) h)
      ·
        refine qb_iload_n hX 17 rfl rfl ?_
        refine qb_bipush hX 18 (-2) rfl (by decide) ?_
        refine qb_icne hX 19 75 rfl (by decide) ?_ ?_
        ·
          exact qb_exit (fun σ h => qj_wk (ρ' := [some (.ref (qx_ad X this)), none, some (.int s3.1), none, none]) (qw_s (qw_n (qw_s (qw_n (qw_n (qw_0)))))) h)
        ·
          refine qb_aload_n hX 20 rfl rfl ?_
          refine qb_getR hX 21 rfl fl_Model_7 hthis rfl ?_
          refine qb_iconst hX 22 1 rfl (by decide) ?_
          refine qb_iload_n hX 23 rfl rfl ?_
          refine qb_iast hX 24 rfl (kf_Model_0 hthis) ?_
          refine qb_aload_n hX 25 rfl rfl ?_
          refine qb_callI hX 26 rfl cv_Model_254 (jm_Model_pours (qk_GI hX) this  hthis ) (ci := 9) hthis ⟨rfl, rfl, rfl, by decide, by decide⟩ rfl (by exact Nat.le_of_ble_eq_true rfl) (fun x4 => ?_)
          refine qb_istore hX 27 ([some (.ref (qx_ad X this)), some (.int p1), some (.int s3.1), some (.int s3.2), some (.int x4)]) rfl (by decide) rfl ?_
          refine qb_iload hX 28 rfl rfl ?_
          refine qb_i2l hX 29 rfl ?_
          refine qb_lconst hX 30 0 rfl (by decide) ?_
          refine qb_iload_n hX 31 rfl rfl ?_
          refine qb_i2l hX 32 rfl ?_
          refine qb_calSI hX 33 rfl cv_Model_129 (jm_Model_in (qk_GI hX) (Int32.toInt64 x4) (0 : Int64) (Int32.toInt64 p1) ) ⟨rfl, by decide, by decide⟩ rfl (by exact Nat.le_of_ble_eq_true rfl) (fun x5 => ?_)
          refine qb_join 68 (fun s6 => [some (.ref (qx_ad X this)), some (.int p1), none, some (.int s3.2), none]) (fun s6 => [.int s6]) ?_ ?_
          ·
            refine qb_ifeq hX 34 66 rfl (by decide) ?_ ?_
            ·
              refine qb_bipush hX 37 (-2) rfl (by decide) ?_
              exact qb_exit (fun σ h => qj_wk (ρ' := [some (.ref (qx_ad X this)), some (.int p1), none, some (.int s3.2), none]) (qw_s (qw_s (qw_n (qw_s (qw_n (qw_0)))))) h)
            ·
              refine qb_iload_n hX 35 rfl rfl ?_
              exact qb_exit (fun σ h => qj_goto hX 36 rfl (by decide) (qj_wk (ρ' := [some (.ref (qx_ad X this)), some (.int p1), none, some (.int s3.2), none]) (qw_s (qw_s (qw_n (qw_s (qw_n (qw_0)))))) h))
          · intro s6
            refine qb_istore_n hX 38 ([some (.ref (qx_ad X this)), some (.int p1), some (.int s6), some (.int s3.2), none]) rfl (by decide) rfl ?_
            refine qb_iinc hX 39 1 (fun x7 => [some (.ref (qx_ad X this)), some (.int p1), some (.int s6), some (.int x7), none]) rfl (by decide) (by decide) rfl (fun _ => rfl) (fun x7 => ?_)
            exact qb_exit (fun σ h => qj_goto hX 40 rfl (by decide) (qj_wk (ρ' := [some (.ref (qx_ad X this)), some (.int p1), some (.int s6), some (.int x7), none]) (qw_s (qw_s (qw_s (qw_s (qw_n (qw_0)))))) h))
    · intro s2
      refine qb_aload_n hX 41 rfl rfl ?_
      refine qb_callV hX 42 rfl cv_Model_307 (jm_Model_putsBack (qk_GI hX) this  hthis ) (ci := 9) hthis ⟨rfl, rfl, rfl, by decide, by decide⟩ rfl (by exact Nat.le_of_ble_eq_true rfl) ?_
      refine qb_iload_n hX 43 rfl rfl ?_
      exact qb_iret hX 44 rfl hR (fun _ h => h)
  ·
    refine qb_iconst hX 6 (-1) rfl (by decide) ?_
    exact qb_iret hX 7 rfl hR (fun _ h => h)
theorem jm_Model_tall {l : Launch} {G : qm_G} (hG : qm_GI G) (this : Nat) (p1 : Int32) (hthis : (qm_kd this).1 = 19) : qm_MI l G jy_Model_tall prog_11_method_62_code 5 (some .int) 10 248 [.ref (G.1 this), .int p1] (jf_Model_tall this p1) :=
  qm_metI (by decide +kernel) jd_Model_tall (fun v hv => by simp only [List.mem_cons, List.not_mem_nil, or_false] at hv; rcases hv with rfl | rfl <;> rfl) (by exact Nat.le_of_ble_eq_true rfl) hG rfl (fun X hl hg hX r0 σ0 hR => by subst hl; subst hg; exact jb_Model_tall hX hR this p1 hthis)
def jl_Model_looseOf : List qm_I := [(0, .aload_n 0, 1, 1), (1, .getfield 92, 3, 4), (4, .iload_n 1, 1, 5), (5, .iaload, 1, 6), (6, .aload_n 0, 1, 7), (7, .aload_n 0, 1, 8), (8, .getfield 80, 3, 11), (11, .iload_n 1, 1, 12), (12, .iaload, 1, 13), (13, .aload_n 0, 1, 14), (14, .getfield 83, 3, 17), (17, .iload_n 1, 1, 18), (18, .iaload, 1, 19), (19, .invokevirtual 169, 3, 22), (22, .isub, 1, 23), (23, .aload_n 0, 1, 24), (24, .iload_n 1, 1, 25), (25, .invokevirtual 317, 3, 28), (28, .ifCond .eq 13, 3, 31), (31, .aload_n 0, 1, 32), (32, .getfield 7, 3, 35), (35, .bipush 6, 2, 37), (37, .iaload, 1, 38), (38, .goto 4, 3, 41), (41, .iconst 0, 1, 42), (42, .isub, 1, 43), (43, .aload_n 0, 1, 44), (44, .getfield 7, 3, 47), (47, .iconst 5, 1, 48), (48, .iaload, 1, 49), (49, .aload_n 0, 1, 50), (50, .iload_n 1, 1, 51), (51, .invokevirtual 257, 3, 54), (54, .imul, 1, 55), (55, .isub, 1, 56), (56, .ireturn, 1, 57)]
theorem jd_Model_looseOf : qm_D prog_11_method_63_code jl_Model_looseOf := qm_D_of (by decide +kernel)
noncomputable def jf_Model_looseOf (this : Nat) (p1 : Int32) : qm_M Int32 :=
  mB (mLd (qm_rf this 30) p1) fun x1 =>
  mB (mLd (qm_rf this 26) p1) fun x2 =>
  mB (mLd (qm_rf this 27) p1) fun x3 =>
  mB (jf_Model_textOf this x2 x3) fun x4 =>
  mB (jf_Model_isNoted this p1) fun x5 =>
  mB (α := Int32) (
    if x5 = 0 then
      mP 0
    else
      mB (mLd (qm_rf this 0) 6) fun x7 =>
      mP x7) fun s6 =>
  mB (mLd (qm_rf this 0) 5) fun x8 =>
  mB (jf_Model_linesIn this p1) fun x9 =>
  mP (((x1 - x4) - s6) - (x8 * x9))
set_option maxRecDepth 20000 in
set_option maxHeartbeats 4000000 in
theorem jb_Model_looseOf {X : qm_X} (hX : qm_ok X qr_Model prog_11_method_63_code 2 5 116 jl_Model_looseOf) {r0 : Int32} {σ0 : qm_Mem} (hR : qm_RI X r0 σ0 .int) (this : Nat) (p1 : Int32) (hthis : (qm_kd this).1 = 19) : qm_B X (jf_Model_looseOf this p1) 0 [some (.ref (qx_ad X this)), some (.int p1)] [] (fun r σ1 => r = r0 ∧ σ1 = σ0) := by
  unfold jf_Model_looseOf
  refine qb_aload_n hX 0 rfl rfl ?_
  refine qb_getR hX 1 rfl fl_Model_92 hthis rfl ?_
  refine qb_iload_n hX 2 rfl rfl ?_
  refine qb_iald hX 3 rfl (kf_Model_30 hthis) (fun x1 => ?_)
  refine qb_aload_n hX 4 rfl rfl ?_
  refine qb_aload_n hX 5 rfl rfl ?_
  refine qb_getR hX 6 rfl fl_Model_80 hthis rfl ?_
  refine qb_iload_n hX 7 rfl rfl ?_
  refine qb_iald hX 8 rfl (kf_Model_26 hthis) (fun x2 => ?_)
  refine qb_aload_n hX 9 rfl rfl ?_
  refine qb_getR hX 10 rfl fl_Model_83 hthis rfl ?_
  refine qb_iload_n hX 11 rfl rfl ?_
  refine qb_iald hX 12 rfl (kf_Model_27 hthis) (fun x3 => ?_)
  refine qb_callI hX 13 rfl cv_Model_169 (jm_Model_textOf (qk_GI hX) this x2 x3 hthis ) (ci := 9) hthis ⟨rfl, rfl, rfl, by decide, by decide⟩ rfl (by exact Nat.le_of_ble_eq_true rfl) (fun x4 => ?_)
  refine qb_isub hX 14 rfl ?_
  refine qb_aload_n hX 15 rfl rfl ?_
  refine qb_iload_n hX 16 rfl rfl ?_
  refine qb_callI hX 17 rfl cv_Model_317 (jm_Model_isNoted (qk_GI hX) this p1 hthis ) (ci := 9) hthis ⟨rfl, rfl, rfl, by decide, by decide⟩ rfl (by exact Nat.le_of_ble_eq_true rfl) (fun x5 => ?_)
  refine qb_join 42 (fun s6 => [some (.ref (qx_ad X this)), some (.int p1)]) (fun s6 => [.int s6, .int (x1 - x4)]) ?_ ?_
  ·
    refine qb_ifeq hX 18 41 rfl (by decide) ?_ ?_
    ·
      refine qb_iconst hX 24 0 rfl (by decide) ?_
      exact qb_exit (fun σ h => qj_wk (ρ' := [some (.ref (qx_ad X this)), some (.int p1)]) (qw_s (qw_s (qw_0))) h)
    ·
      refine qb_aload_n hX 19 rfl rfl ?_
      refine qb_getR hX 20 rfl fl_Model_7 hthis rfl ?_
      refine qb_bipush hX 21 6 rfl (by decide) ?_
      refine qb_iald hX 22 rfl (kf_Model_0 hthis) (fun x7 => ?_)
      exact qb_exit (fun σ h => qj_goto hX 23 rfl (by decide) (qj_wk (ρ' := [some (.ref (qx_ad X this)), some (.int p1)]) (qw_s (qw_s (qw_0))) h))
  · intro s6
    refine qb_isub hX 25 rfl ?_
    refine qb_aload_n hX 26 rfl rfl ?_
    refine qb_getR hX 27 rfl fl_Model_7 hthis rfl ?_
    refine qb_iconst hX 28 5 rfl (by decide) ?_
    refine qb_iald hX 29 rfl (kf_Model_0 hthis) (fun x8 => ?_)
    refine qb_aload_n hX 30 rfl rfl ?_
    refine qb_iload_n hX 31 rfl rfl ?_
    refine qb_callI hX 32 rfl cv_Model_257 (jm_Model_linesIn (qk_GI hX) this p1 hthis ) (ci := 9) hthis ⟨rfl, rfl, rfl, by decide, by decide⟩ rfl (by exact Nat.le_of_ble_eq_true rfl) (fun x9 => ?_)
    refine qb_imul hX 33 rfl ?_
    refine qb_isub hX 34 rfl ?_
    exact qb_iret hX 35 rfl hR (fun _ h => h)
theorem jm_Model_looseOf {l : Launch} {G : qm_G} (hG : qm_GI G) (this : Nat) (p1 : Int32) (hthis : (qm_kd this).1 = 19) : qm_MI l G jy_Model_looseOf prog_11_method_63_code 2 (some .int) 5 116 [.ref (G.1 this), .int p1] (jf_Model_looseOf this p1) :=
  qm_metI (by decide +kernel) jd_Model_looseOf (fun v hv => by simp only [List.mem_cons, List.not_mem_nil, or_false] at hv; rcases hv with rfl | rfl <;> rfl) (by exact Nat.le_of_ble_eq_true rfl) hG rfl (fun X hl hg hX r0 σ0 hR => by subst hl; subst hg; exact jb_Model_looseOf hX hR this p1 hthis)
def jl_Model_loose : List qm_I := [(0, .iload_n 1, 1, 1), (1, .i2l, 1, 2), (2, .lconst 0, 1, 3), (3, .ldc2_w 260, 3, 6), (6, .invokestatic 129, 3, 9), (9, .ifCond .ne 5, 3, 12), (12, .iconst (-1), 1, 13), (13, .ireturn, 1, 14), (14, .aload_n 0, 1, 15), (15, .invokevirtual 254, 3, 18), (18, .istore_n 2, 1, 19), (19, .iload_n 2, 1, 20), (20, .ifCond .ge 5, 3, 23), (23, .iload_n 2, 1, 24), (24, .ireturn, 1, 25), (25, .iconst 0, 1, 26), (26, .istore_n 3, 1, 27), (27, .iconst 0, 1, 28), (28, .istore 4, 2, 30), (30, .bipush (-2), 2, 32), (32, .istore 5, 2, 34), (34, .iconst 0, 1, 35), (35, .istore 6, 2, 37), (37, .iload 6, 2, 39), (39, .aload_n 0, 1, 40), (40, .getfield 198, 3, 43), (43, .if_icmp .ge 47, 3, 46), (46, .aload_n 0, 1, 47), (47, .iload 6, 2, 49), (49, .invokevirtual 320, 3, 52), (52, .istore 7, 2, 54), (54, .iload_n 3, 1, 55), (55, .iload 7, 2, 57), (57, .iadd, 1, 58), (58, .istore_n 3, 1, 59), (59, .iload 5, 2, 61), (61, .bipush (-2), 2, 63), (63, .if_icmp .eq 13, 3, 66), (66, .iload 7, 2, 68), (68, .iload 4, 2, 70), (70, .if_icmp .gt 6, 3, 73), (73, .goto 11, 3, 76), (76, .iload 7, 2, 78), (78, .istore 4, 2, 80), (80, .iload 6, 2, 82), (82, .istore 5, 2, 84), (84, .iinc 6 1, 3, 87), (87, .goto (-50), 3, 90), (90, .iload_n 1, 1, 91), (91, .ifCond .ne 7, 3, 94), (94, .iload_n 3, 1, 95), (95, .goto 15, 3, 98), (98, .iload_n 1, 1, 99), (99, .iconst 1, 1, 100), (100, .if_icmp .ne 8, 3, 103), (103, .iload 4, 2, 105), (105, .goto 5, 3, 108), (108, .iload 5, 2, 110), (110, .ireturn, 1, 111)]
theorem jd_Model_loose : qm_D prog_11_method_64_code jl_Model_loose := qm_D_of (by decide +kernel)
noncomputable def jf_Model_loose (this : Nat) (p1 : Int32) : qm_M Int32 :=
  mB (jf_Model_in (Int32.toInt64 p1) (0 : Int64) (2 : Int64)) fun x1 =>
  if ¬ x1 = 0 then
    mB (jf_Model_pours this) fun x2 =>
    if 0 ≤ x2 then
      mB (α := Int32 × Int32 × Int32) (
        mW (S := Int32 × Int32 × Int32 × Int32) (α := Int32 × Int32 × Int32) (fun s4 =>
          mB (mGt this 32) fun x5 =>
          if x5 ≤ s4.2.2.2 then
            mP (Sum.inr (s4.1, s4.2.1, s4.2.2.1))
          else
            mB (jf_Model_looseOf this s4.2.2.2) fun x6 =>
            mB (mP (s4.1 + x6)) fun x7 =>
            mB (α := Int32 × Int32) (
              mB (α := (Unit ⊕ (Int32 × Int32))) (
                if s4.2.2.1 = (-2) then
                  mP (Sum.inl ())
                else
                  if s4.2.1 < x6 then
                    mP (Sum.inl ())
                  else
                    mP (Sum.inr (s4.2.1, s4.2.2.1))) (Sum.elim (fun s9 =>
                mP (x6, s4.2.2.2)) mP)) fun s8 =>
            mB (mP (s4.2.2.2 + 1)) fun x10 =>
            mP (Sum.inl (x7, s8.1, s8.2, x10))) (0, 0, (-2), 0)) fun s3 =>
      if ¬ p1 = 0 then
        if ¬ p1 = 1 then
          mP s3.2.2
        else
          mP s3.2.1
      else
        mP s3.1
    else
      mP x2
  else
    mP (-1)
set_option maxRecDepth 20000 in
set_option maxHeartbeats 4000000 in
theorem jb_Model_loose {X : qm_X} (hX : qm_ok X qr_Model prog_11_method_64_code 8 10 248 jl_Model_loose) {r0 : Int32} {σ0 : qm_Mem} (hR : qm_RI X r0 σ0 .int) (this : Nat) (p1 : Int32) (hthis : (qm_kd this).1 = 19) : qm_B X (jf_Model_loose this p1) 0 [some (.ref (qx_ad X this)), some (.int p1), none, none, none, none, none, none] [] (fun r σ1 => r = r0 ∧ σ1 = σ0) := by
  unfold jf_Model_loose
  refine qb_iload_n hX 0 rfl rfl ?_
  refine qb_i2l hX 1 rfl ?_
  refine qb_lconst hX 2 0 rfl (by decide) ?_
  refine qb_ldc2w hX 3 2 rfl kl_Model_260 ?_
  refine qb_calSI hX 4 rfl cv_Model_129 (jm_Model_in (qk_GI hX) (Int32.toInt64 p1) (0 : Int64) (2 : Int64) ) ⟨rfl, by decide, by decide⟩ rfl (by exact Nat.le_of_ble_eq_true rfl) (fun x1 => ?_)
  refine qb_ifne hX 5 14 rfl (by decide) ?_ ?_
  ·
    refine qb_aload_n hX 8 rfl rfl ?_
    refine qb_callI hX 9 rfl cv_Model_254 (jm_Model_pours (qk_GI hX) this  hthis ) (ci := 9) hthis ⟨rfl, rfl, rfl, by decide, by decide⟩ rfl (by exact Nat.le_of_ble_eq_true rfl) (fun x2 => ?_)
    refine qb_istore_n hX 10 ([some (.ref (qx_ad X this)), some (.int p1), some (.int x2), none, none, none, none, none]) rfl (by decide) rfl ?_
    refine qb_iload_n hX 11 rfl rfl ?_
    refine qb_ifge hX 12 25 rfl (by decide) ?_ ?_
    ·
      refine qb_iconst hX 15 0 rfl (by decide) ?_
      refine qb_istore_n hX 16 ([some (.ref (qx_ad X this)), some (.int p1), some (.int x2), some (.int 0), none, none, none, none]) rfl (by decide) rfl ?_
      refine qb_iconst hX 17 0 rfl (by decide) ?_
      refine qb_istore hX 18 ([some (.ref (qx_ad X this)), some (.int p1), some (.int x2), some (.int 0), some (.int 0), none, none, none]) rfl (by decide) rfl ?_
      refine qb_bipush hX 19 (-2) rfl (by decide) ?_
      refine qb_istore hX 20 ([some (.ref (qx_ad X this)), some (.int p1), some (.int x2), some (.int 0), some (.int 0), some (.int (-2)), none, none]) rfl (by decide) rfl ?_
      refine qb_iconst hX 21 0 rfl (by decide) ?_
      refine qb_istore hX 22 ([some (.ref (qx_ad X this)), some (.int p1), some (.int x2), some (.int 0), some (.int 0), some (.int (-2)), some (.int 0), none]) rfl (by decide) rfl ?_
      refine qb_join 90 (fun s3 => [none, some (.int p1), none, some (.int s3.1), some (.int s3.2.1), some (.int s3.2.2), none, none]) (fun s3 => []) ?_ ?_
      ·
        refine qb_loopw ((0, 0, (-2), 0)) (fun s4 => [some (.ref (qx_ad X this)), some (.int p1), none, some (.int s4.1), some (.int s4.2.1), some (.int s4.2.2.1), some (.int s4.2.2.2), none]) (qw_s (qw_s (qw_n (qw_s (qw_s (qw_s (qw_s (qw_n (qw_0))))))))) (fun s4 => ?_)
        refine qb_iload hX 23 rfl rfl ?_
        refine qb_aload_n hX 24 rfl rfl ?_
        refine qb_get hX 25 rfl fl_Model_198 hthis rfl (fun x5 => ?_)
        refine qb_icge hX 26 90 rfl (by decide) ?_ ?_
        ·
          exact qb_exit (fun σ h => qj_wk (ρ' := [none, some (.int p1), none, some (.int s4.1), some (.int s4.2.1), some (.int s4.2.2.1), none, none]) (qw_n (qw_s (qw_n (qw_s (qw_s (qw_s (qw_n (qw_n (qw_0))))))))) h)
        ·
          refine qb_aload_n hX 27 rfl rfl ?_
          refine qb_iload hX 28 rfl rfl ?_
          refine qb_callI hX 29 rfl cv_Model_320 (jm_Model_looseOf (qk_GI hX) this s4.2.2.2 hthis ) (ci := 9) hthis ⟨rfl, rfl, rfl, by decide, by decide⟩ rfl (by exact Nat.le_of_ble_eq_true rfl) (fun x6 => ?_)
          refine qb_istore hX 30 ([some (.ref (qx_ad X this)), some (.int p1), none, some (.int s4.1), some (.int s4.2.1), some (.int s4.2.2.1), some (.int s4.2.2.2), some (.int x6)]) rfl (by decide) rfl ?_
          refine qb_iload_n hX 31 rfl rfl ?_
          refine qb_iload hX 32 rfl rfl ?_
          refine qb_iadd hX 33 rfl ?_
          refine qb_istore_nL hX 34 (fun x7 => [some (.ref (qx_ad X this)), some (.int p1), none, some (.int x7), some (.int s4.2.1), some (.int s4.2.2.1), some (.int s4.2.2.2), some (.int x6)]) rfl (by decide) (fun _ => rfl) (fun x7 => ?_)
          refine qb_iload hX 35 rfl rfl ?_
          refine qb_bipush hX 36 (-2) rfl (by decide) ?_
          refine qb_join 84 (fun s8 => [some (.ref (qx_ad X this)), some (.int p1), none, some (.int x7), some (.int s8.1), some (.int s8.2), some (.int s4.2.2.2), none]) (fun s8 => []) ?_ ?_
          ·
            refine qb_join2 76 (fun s9 => [some (.ref (qx_ad X this)), some (.int p1), none, some (.int x7), none, none, some (.int s4.2.2.2), some (.int x6)]) (fun s9 => []) ?_ ?_
            ·
              refine qb_iceq hX 37 76 rfl (by decide) ?_ ?_
              ·
                exact qb_exit (fun σ h => qj_wk (ρ' := [some (.ref (qx_ad X this)), some (.int p1), none, some (.int x7), none, none, some (.int s4.2.2.2), some (.int x6)]) (qw_s (qw_s (qw_n (qw_s (qw_n (qw_n (qw_s (qw_s (qw_0))))))))) h)
              ·
                refine qb_iload hX 38 rfl rfl ?_
                refine qb_iload hX 39 rfl rfl ?_
                refine qb_icgt hX 40 76 rfl (by decide) ?_ ?_
                ·
                  exact qb_exit (fun σ h => qj_wk (ρ' := [some (.ref (qx_ad X this)), some (.int p1), none, some (.int x7), none, none, some (.int s4.2.2.2), some (.int x6)]) (qw_s (qw_s (qw_n (qw_s (qw_n (qw_n (qw_s (qw_s (qw_0))))))))) h)
                ·
                  exact qb_exit (fun σ h => qj_goto hX 41 rfl (by decide) (qj_wk (ρ' := [some (.ref (qx_ad X this)), some (.int p1), none, some (.int x7), some (.int s4.2.1), some (.int s4.2.2.1), some (.int s4.2.2.2), none]) (qw_s (qw_s (qw_n (qw_s (qw_s (qw_s (qw_s (qw_n (qw_0))))))))) h))
            · intro s9
              refine qb_iload hX 42 rfl rfl ?_
              refine qb_istore hX 43 ([some (.ref (qx_ad X this)), some (.int p1), none, some (.int x7), some (.int x6), none, some (.int s4.2.2.2), some (.int x6)]) rfl (by decide) rfl ?_
              refine qb_iload hX 44 rfl rfl ?_
              refine qb_istore hX 45 ([some (.ref (qx_ad X this)), some (.int p1), none, some (.int x7), some (.int x6), some (.int s4.2.2.2), some (.int s4.2.2.2), some (.int x6)]) rfl (by decide) rfl ?_
              exact qb_exit (fun σ h => qj_wk (ρ' := [some (.ref (qx_ad X this)), some (.int p1), none, some (.int x7), some (.int x6), some (.int s4.2.2.2), some (.int s4.2.2.2), none]) (qw_s (qw_s (qw_n (qw_s (qw_s (qw_s (qw_s (qw_n (qw_0))))))))) h)
          · intro s8
            refine qb_iinc hX 46 1 (fun x10 => [some (.ref (qx_ad X this)), some (.int p1), none, some (.int x7), some (.int s8.1), some (.int s8.2), some (.int x10), none]) rfl (by decide) (by decide) rfl (fun _ => rfl) (fun x10 => ?_)
            exact qb_exit (fun σ h => qj_goto hX 47 rfl (by decide) (qj_wk (ρ' := [some (.ref (qx_ad X this)), some (.int p1), none, some (.int x7), some (.int s8.1), some (.int s8.2), some (.int x10), none]) (qw_s (qw_s (qw_n (qw_s (qw_s (qw_s (qw_s (qw_n (qw_0))))))))) h))
      · intro s3
        refine qb_iload_n hX 48 rfl rfl ?_
        refine qb_ifne hX 49 98 rfl (by decide) ?_ ?_
        ·
          refine qb_iload_n hX 52 rfl rfl ?_
          refine qb_iconst hX 53 1 rfl (by decide) ?_
          refine qb_icne hX 54 108 rfl (by decide) ?_ ?_
          ·
            refine qb_iload hX 57 rfl rfl ?_
            exact qb_iret hX 58 rfl hR (fun _ h => h)
          ·
            refine qb_iload hX 55 rfl rfl ?_
            refine qb_goto hX 56 (tgt := 110) rfl (by decide) ?_
            exact qb_iret hX 58 rfl hR (fun _ h => h)
        ·
          refine qb_iload_n hX 50 rfl rfl ?_
          refine qb_goto hX 51 (tgt := 110) rfl (by decide) ?_
          exact qb_iret hX 58 rfl hR (fun _ h => h)
    ·
      refine qb_iload_n hX 13 rfl rfl ?_
      exact qb_iret hX 14 rfl hR (fun _ h => h)
  ·
    refine qb_iconst hX 6 (-1) rfl (by decide) ?_
    exact qb_iret hX 7 rfl hR (fun _ h => h)
theorem jm_Model_loose {l : Launch} {G : qm_G} (hG : qm_GI G) (this : Nat) (p1 : Int32) (hthis : (qm_kd this).1 = 19) : qm_MI l G jy_Model_loose prog_11_method_64_code 8 (some .int) 10 248 [.ref (G.1 this), .int p1] (jf_Model_loose this p1) :=
  qm_metI (by decide +kernel) jd_Model_loose (fun v hv => by simp only [List.mem_cons, List.not_mem_nil, or_false] at hv; rcases hv with rfl | rfl <;> rfl) (by exact Nat.le_of_ble_eq_true rfl) hG rfl (fun X hl hg hX r0 σ0 hR => by subst hl; subst hg; exact jb_Model_loose hX hR this p1 hthis)
def jl_Model_bits : List qm_I := [(0, .iconst 0, 1, 1), (1, .istore_n 1, 1, 2), (2, .iconst 0, 1, 3), (3, .istore_n 2, 1, 4), (4, .iload_n 2, 1, 5), (5, .bipush 18, 2, 7), (7, .if_icmp .ge 17, 3, 10), (10, .iload_n 1, 1, 11), (11, .iload_n 0, 1, 12), (12, .iload_n 2, 1, 13), (13, .ishr, 1, 14), (14, .iconst 1, 1, 15), (15, .iand, 1, 16), (16, .iadd, 1, 17), (17, .istore_n 1, 1, 18), (18, .iinc 2 1, 3, 21), (21, .goto (-17), 3, 24), (24, .iload_n 1, 1, 25), (25, .ireturn, 1, 26)]
theorem jd_Model_bits : qm_D prog_11_method_66_code jl_Model_bits := qm_D_of (by decide +kernel)
noncomputable def jf_Model_bits (p1 : Int32) : qm_M Int32 :=
  mB (α := Int32) (
    mW (S := Int32 × Int32) (α := Int32) (fun s2 =>
      if 18 ≤ s2.2 then
        mP (Sum.inr s2.1)
      else
        mB (mP (s2.1 + ((p1 >>> (s2.2 &&& 31)) &&& 1))) fun x3 =>
        mB (mP (s2.2 + 1)) fun x4 =>
        mP (Sum.inl (x3, x4))) (0, 0)) fun s1 =>
  mP s1
set_option maxRecDepth 20000 in
set_option maxHeartbeats 4000000 in
theorem jb_Model_bits {X : qm_X} (hX : qm_ok X qr_Model prog_11_method_66_code 3 0 0 jl_Model_bits) {r0 : Int32} {σ0 : qm_Mem} (hR : qm_RI X r0 σ0 .int) (p1 : Int32)  : qm_B X (jf_Model_bits p1) 0 [some (.int p1), none, none] [] (fun r σ1 => r = r0 ∧ σ1 = σ0) := by
  unfold jf_Model_bits
  refine qb_iconst hX 0 0 rfl (by decide) ?_
  refine qb_istore_n hX 1 ([some (.int p1), some (.int 0), none]) rfl (by decide) rfl ?_
  refine qb_iconst hX 2 0 rfl (by decide) ?_
  refine qb_istore_n hX 3 ([some (.int p1), some (.int 0), some (.int 0)]) rfl (by decide) rfl ?_
  refine qb_join 24 (fun s1 => [none, some (.int s1), none]) (fun s1 => []) ?_ ?_
  ·
    refine qb_loopw ((0, 0)) (fun s2 => [some (.int p1), some (.int s2.1), some (.int s2.2)]) (qw_s (qw_s (qw_s (qw_0)))) (fun s2 => ?_)
    refine qb_iload_n hX 4 rfl rfl ?_
    refine qb_bipush hX 5 18 rfl (by decide) ?_
    refine qb_icge hX 6 24 rfl (by decide) ?_ ?_
    ·
      exact qb_exit (fun σ h => qj_wk (ρ' := [none, some (.int s2.1), none]) (qw_n (qw_s (qw_n (qw_0)))) h)
    ·
      refine qb_iload_n hX 7 rfl rfl ?_
      refine qb_iload_n hX 8 rfl rfl ?_
      refine qb_iload_n hX 9 rfl rfl ?_
      refine qb_ishr hX 10 rfl ?_
      refine qb_iconst hX 11 1 rfl (by decide) ?_
      refine qb_iand hX 12 rfl ?_
      refine qb_iadd hX 13 rfl ?_
      refine qb_istore_nL hX 14 (fun x3 => [some (.int p1), some (.int x3), some (.int s2.2)]) rfl (by decide) (fun _ => rfl) (fun x3 => ?_)
      refine qb_iinc hX 15 1 (fun x4 => [some (.int p1), some (.int x3), some (.int x4)]) rfl (by decide) (by decide) rfl (fun _ => rfl) (fun x4 => ?_)
      exact qb_exit (fun σ h => qj_goto hX 16 rfl (by decide) (qj_wk (ρ' := [some (.int p1), some (.int x3), some (.int x4)]) (qw_s (qw_s (qw_s (qw_0)))) h))
  · intro s1
    refine qb_iload_n hX 17 rfl rfl ?_
    exact qb_iret hX 18 rfl hR (fun _ h => h)
theorem jm_Model_bits {l : Launch} {G : qm_G} (hG : qm_GI G) (p1 : Int32)  : qm_MI l G jy_Model_bits prog_11_method_66_code 3 (some .int) 0 0 [.int p1] (jf_Model_bits p1) :=
  qm_metI (by decide +kernel) jd_Model_bits (fun v hv => by simp only [List.mem_cons, List.not_mem_nil, or_false] at hv; rcases hv with rfl <;> rfl) (by exact Nat.le_of_ble_eq_true rfl) hG rfl (fun X hl hg hX r0 σ0 hR => by subst hl; subst hg; exact jb_Model_bits hX hR p1 )
def jl_Model_sectionsOn : List qm_I := [(0, .iconst 0, 1, 1), (1, .istore_n 2, 1, 2), (2, .iconst 0, 1, 3), (3, .istore_n 3, 1, 4), (4, .iload_n 3, 1, 5), (5, .aload_n 0, 1, 6), (6, .getfield 198, 3, 9), (9, .if_icmp .ge 34, 3, 12), (12, .iload_n 2, 1, 13), (13, .aload_n 0, 1, 14), (14, .getfield 71, 3, 17), (17, .iload_n 3, 1, 18), (18, .iaload, 1, 19), (19, .iload_n 1, 1, 20), (20, .if_icmp .ne 14, 3, 23), (23, .iconst 1, 1, 24), (24, .aload_n 0, 1, 25), (25, .getfield 77, 3, 28), (28, .iload_n 3, 1, 29), (29, .iaload, 1, 30), (30, .ishl, 1, 31), (31, .goto 4, 3, 34), (34, .iconst 0, 1, 35), (35, .ior, 1, 36), (36, .istore_n 2, 1, 37), (37, .iinc 3 1, 3, 40), (40, .goto (-36), 3, 43), (43, .iload_n 2, 1, 44), (44, .invokestatic 323, 3, 47), (47, .ireturn, 1, 48)]
theorem jd_Model_sectionsOn : qm_D prog_11_method_65_code jl_Model_sectionsOn := qm_D_of (by decide +kernel)
noncomputable def jf_Model_sectionsOn (this : Nat) (p1 : Int32) : qm_M Int32 :=
  mB (α := Int32) (
    mW (S := Int32 × Int32) (α := Int32) (fun s2 =>
      mB (mGt this 32) fun x3 =>
      if x3 ≤ s2.2 then
        mP (Sum.inr s2.1)
      else
        mB (mLd (qm_rf this 23) s2.2) fun x4 =>
        mB (α := Int32) (
          if ¬ x4 = p1 then
            mP 0
          else
            mB (mLd (qm_rf this 25) s2.2) fun x6 =>
            mP (1 <<< (x6 &&& 31))) fun s5 =>
        mB (mP (s2.1 ||| s5)) fun x7 =>
        mB (mP (s2.2 + 1)) fun x8 =>
        mP (Sum.inl (x7, x8))) (0, 0)) fun s1 =>
  mB (jf_Model_bits s1) fun x9 =>
  mP x9
set_option maxRecDepth 20000 in
set_option maxHeartbeats 4000000 in
theorem jb_Model_sectionsOn {X : qm_X} (hX : qm_ok X qr_Model prog_11_method_65_code 4 1 22 jl_Model_sectionsOn) {r0 : Int32} {σ0 : qm_Mem} (hR : qm_RI X r0 σ0 .int) (this : Nat) (p1 : Int32) (hthis : (qm_kd this).1 = 19) : qm_B X (jf_Model_sectionsOn this p1) 0 [some (.ref (qx_ad X this)), some (.int p1), none, none] [] (fun r σ1 => r = r0 ∧ σ1 = σ0) := by
  unfold jf_Model_sectionsOn
  refine qb_iconst hX 0 0 rfl (by decide) ?_
  refine qb_istore_n hX 1 ([some (.ref (qx_ad X this)), some (.int p1), some (.int 0), none]) rfl (by decide) rfl ?_
  refine qb_iconst hX 2 0 rfl (by decide) ?_
  refine qb_istore_n hX 3 ([some (.ref (qx_ad X this)), some (.int p1), some (.int 0), some (.int 0)]) rfl (by decide) rfl ?_
  refine qb_join 43 (fun s1 => [none, none, some (.int s1), none]) (fun s1 => []) ?_ ?_
  ·
    refine qb_loopw ((0, 0)) (fun s2 => [some (.ref (qx_ad X this)), some (.int p1), some (.int s2.1), some (.int s2.2)]) (qw_s (qw_s (qw_s (qw_s (qw_0))))) (fun s2 => ?_)
    refine qb_iload_n hX 4 rfl rfl ?_
    refine qb_aload_n hX 5 rfl rfl ?_
    refine qb_get hX 6 rfl fl_Model_198 hthis rfl (fun x3 => ?_)
    refine qb_icge hX 7 43 rfl (by decide) ?_ ?_
    ·
      exact qb_exit (fun σ h => qj_wk (ρ' := [none, none, some (.int s2.1), none]) (qw_n (qw_n (qw_s (qw_n (qw_0))))) h)
    ·
      refine qb_iload_n hX 8 rfl rfl ?_
      refine qb_aload_n hX 9 rfl rfl ?_
      refine qb_getR hX 10 rfl fl_Model_71 hthis rfl ?_
      refine qb_iload_n hX 11 rfl rfl ?_
      refine qb_iald hX 12 rfl (kf_Model_23 hthis) (fun x4 => ?_)
      refine qb_iload_n hX 13 rfl rfl ?_
      refine qb_join 35 (fun s5 => [some (.ref (qx_ad X this)), some (.int p1), none, some (.int s2.2)]) (fun s5 => [.int s5, .int s2.1]) ?_ ?_
      ·
        refine qb_icne hX 14 34 rfl (by decide) ?_ ?_
        ·
          refine qb_iconst hX 22 0 rfl (by decide) ?_
          exact qb_exit (fun σ h => qj_wk (ρ' := [some (.ref (qx_ad X this)), some (.int p1), none, some (.int s2.2)]) (qw_s (qw_s (qw_n (qw_s (qw_0))))) h)
        ·
          refine qb_iconst hX 15 1 rfl (by decide) ?_
          refine qb_aload_n hX 16 rfl rfl ?_
          refine qb_getR hX 17 rfl fl_Model_77 hthis rfl ?_
          refine qb_iload_n hX 18 rfl rfl ?_
          refine qb_iald hX 19 rfl (kf_Model_25 hthis) (fun x6 => ?_)
          refine qb_ishl hX 20 rfl ?_
          exact qb_exit (fun σ h => qj_goto hX 21 rfl (by decide) (qj_wk (ρ' := [some (.ref (qx_ad X this)), some (.int p1), none, some (.int s2.2)]) (qw_s (qw_s (qw_n (qw_s (qw_0))))) h))
      · intro s5
        refine qb_ior hX 23 rfl ?_
        refine qb_istore_nL hX 24 (fun x7 => [some (.ref (qx_ad X this)), some (.int p1), some (.int x7), some (.int s2.2)]) rfl (by decide) (fun _ => rfl) (fun x7 => ?_)
        refine qb_iinc hX 25 1 (fun x8 => [some (.ref (qx_ad X this)), some (.int p1), some (.int x7), some (.int x8)]) rfl (by decide) (by decide) rfl (fun _ => rfl) (fun x8 => ?_)
        exact qb_exit (fun σ h => qj_goto hX 26 rfl (by decide) (qj_wk (ρ' := [some (.ref (qx_ad X this)), some (.int p1), some (.int x7), some (.int x8)]) (qw_s (qw_s (qw_s (qw_s (qw_0))))) h))
  · intro s1
    refine qb_iload_n hX 27 rfl rfl ?_
    refine qb_calSI hX 28 rfl cv_Model_323 (jm_Model_bits (qk_GI hX) s1 ) ⟨rfl, by decide, by decide⟩ rfl (by exact Nat.le_of_ble_eq_true rfl) (fun x9 => ?_)
    exact qb_iret hX 29 rfl hR (fun _ h => h)
theorem jm_Model_sectionsOn {l : Launch} {G : qm_G} (hG : qm_GI G) (this : Nat) (p1 : Int32) (hthis : (qm_kd this).1 = 19) : qm_MI l G jy_Model_sectionsOn prog_11_method_65_code 4 (some .int) 1 22 [.ref (G.1 this), .int p1] (jf_Model_sectionsOn this p1) :=
  qm_metI (by decide +kernel) jd_Model_sectionsOn (fun v hv => by simp only [List.mem_cons, List.not_mem_nil, or_false] at hv; rcases hv with rfl | rfl <;> rfl) (by exact Nat.le_of_ble_eq_true rfl) hG rfl (fun X hl hg hX r0 σ0 hR => by subst hl; subst hg; exact jb_Model_sectionsOn hX hR this p1 hthis)
def jl_Model_spansOn : List qm_I := [(0, .iconst 0, 1, 1), (1, .istore_n 2, 1, 2), (2, .iconst 1, 1, 3), (3, .istore_n 3, 1, 4), (4, .iload_n 3, 1, 5), (5, .aload_n 0, 1, 6), (6, .getfield 155, 3, 9), (9, .if_icmp .ge 27, 3, 12), (12, .iload_n 2, 1, 13), (13, .aload_n 0, 1, 14), (14, .getfield 98, 3, 17), (17, .iload_n 3, 1, 18), (18, .iaload, 1, 19), (19, .iload_n 1, 1, 20), (20, .if_icmp .ne 7, 3, 23), (23, .iconst 1, 1, 24), (24, .goto 4, 3, 27), (27, .iconst 0, 1, 28), (28, .iadd, 1, 29), (29, .istore_n 2, 1, 30), (30, .iinc 3 1, 3, 33), (33, .goto (-29), 3, 36), (36, .iload_n 2, 1, 37), (37, .ireturn, 1, 38)]
theorem jd_Model_spansOn : qm_D prog_11_method_67_code jl_Model_spansOn := qm_D_of (by decide +kernel)
noncomputable def jf_Model_spansOn (this : Nat) (p1 : Int32) : qm_M Int32 :=
  mB (α := Int32) (
    mW (S := Int32 × Int32) (α := Int32) (fun s2 =>
      mB (mGt this 16) fun x3 =>
      if x3 ≤ s2.2 then
        mP (Sum.inr s2.1)
      else
        mB (mLd (qm_rf this 38) s2.2) fun x4 =>
        mB (α := Int32) (
          if ¬ x4 = p1 then
            mP 0
          else
            mP 1) fun s5 =>
        mB (mP (s2.1 + s5)) fun x6 =>
        mB (mP (s2.2 + 1)) fun x7 =>
        mP (Sum.inl (x6, x7))) (0, 1)) fun s1 =>
  mP s1
set_option maxRecDepth 20000 in
set_option maxHeartbeats 4000000 in
theorem jb_Model_spansOn {X : qm_X} (hX : qm_ok X qr_Model prog_11_method_67_code 4 0 0 jl_Model_spansOn) {r0 : Int32} {σ0 : qm_Mem} (hR : qm_RI X r0 σ0 .int) (this : Nat) (p1 : Int32) (hthis : (qm_kd this).1 = 19) : qm_B X (jf_Model_spansOn this p1) 0 [some (.ref (qx_ad X this)), some (.int p1), none, none] [] (fun r σ1 => r = r0 ∧ σ1 = σ0) := by
  unfold jf_Model_spansOn
  refine qb_iconst hX 0 0 rfl (by decide) ?_
  refine qb_istore_n hX 1 ([some (.ref (qx_ad X this)), some (.int p1), some (.int 0), none]) rfl (by decide) rfl ?_
  refine qb_iconst hX 2 1 rfl (by decide) ?_
  refine qb_istore_n hX 3 ([some (.ref (qx_ad X this)), some (.int p1), some (.int 0), some (.int 1)]) rfl (by decide) rfl ?_
  refine qb_join 36 (fun s1 => [none, none, some (.int s1), none]) (fun s1 => []) ?_ ?_
  ·
    refine qb_loopw ((0, 1)) (fun s2 => [some (.ref (qx_ad X this)), some (.int p1), some (.int s2.1), some (.int s2.2)]) (qw_s (qw_s (qw_s (qw_s (qw_0))))) (fun s2 => ?_)
    refine qb_iload_n hX 4 rfl rfl ?_
    refine qb_aload_n hX 5 rfl rfl ?_
    refine qb_get hX 6 rfl fl_Model_155 hthis rfl (fun x3 => ?_)
    refine qb_icge hX 7 36 rfl (by decide) ?_ ?_
    ·
      exact qb_exit (fun σ h => qj_wk (ρ' := [none, none, some (.int s2.1), none]) (qw_n (qw_n (qw_s (qw_n (qw_0))))) h)
    ·
      refine qb_iload_n hX 8 rfl rfl ?_
      refine qb_aload_n hX 9 rfl rfl ?_
      refine qb_getR hX 10 rfl fl_Model_98 hthis rfl ?_
      refine qb_iload_n hX 11 rfl rfl ?_
      refine qb_iald hX 12 rfl (kf_Model_38 hthis) (fun x4 => ?_)
      refine qb_iload_n hX 13 rfl rfl ?_
      refine qb_join 28 (fun s5 => [some (.ref (qx_ad X this)), some (.int p1), none, some (.int s2.2)]) (fun s5 => [.int s5, .int s2.1]) ?_ ?_
      ·
        refine qb_icne hX 14 27 rfl (by decide) ?_ ?_
        ·
          refine qb_iconst hX 17 0 rfl (by decide) ?_
          exact qb_exit (fun σ h => qj_wk (ρ' := [some (.ref (qx_ad X this)), some (.int p1), none, some (.int s2.2)]) (qw_s (qw_s (qw_n (qw_s (qw_0))))) h)
        ·
          refine qb_iconst hX 15 1 rfl (by decide) ?_
          exact qb_exit (fun σ h => qj_goto hX 16 rfl (by decide) (qj_wk (ρ' := [some (.ref (qx_ad X this)), some (.int p1), none, some (.int s2.2)]) (qw_s (qw_s (qw_n (qw_s (qw_0))))) h))
      · intro s5
        refine qb_iadd hX 18 rfl ?_
        refine qb_istore_nL hX 19 (fun x6 => [some (.ref (qx_ad X this)), some (.int p1), some (.int x6), some (.int s2.2)]) rfl (by decide) (fun _ => rfl) (fun x6 => ?_)
        refine qb_iinc hX 20 1 (fun x7 => [some (.ref (qx_ad X this)), some (.int p1), some (.int x6), some (.int x7)]) rfl (by decide) (by decide) rfl (fun _ => rfl) (fun x7 => ?_)
        exact qb_exit (fun σ h => qj_goto hX 21 rfl (by decide) (qj_wk (ρ' := [some (.ref (qx_ad X this)), some (.int p1), some (.int x6), some (.int x7)]) (qw_s (qw_s (qw_s (qw_s (qw_0))))) h))
  · intro s1
    refine qb_iload_n hX 22 rfl rfl ?_
    exact qb_iret hX 23 rfl hR (fun _ h => h)
theorem jm_Model_spansOn {l : Launch} {G : qm_G} (hG : qm_GI G) (this : Nat) (p1 : Int32) (hthis : (qm_kd this).1 = 19) : qm_MI l G jy_Model_spansOn prog_11_method_67_code 4 (some .int) 0 0 [.ref (G.1 this), .int p1] (jf_Model_spansOn this p1) :=
  qm_metI (by decide +kernel) jd_Model_spansOn (fun v hv => by simp only [List.mem_cons, List.not_mem_nil, or_false] at hv; rcases hv with rfl | rfl <;> rfl) (by exact Nat.le_of_ble_eq_true rfl) hG rfl (fun X hl hg hX r0 σ0 hR => by subst hl; subst hg; exact jb_Model_spansOn hX hR this p1 hthis)
def jl_Model_page : List qm_I := [(0, .aload_n 0, 1, 1), (1, .invokevirtual 254, 3, 4), (4, .istore_n 3, 1, 5), (5, .aload_n 0, 1, 6), (6, .invokevirtual 140, 3, 9), (9, .ifCond .eq 29, 3, 12), (12, .iload_n 1, 1, 13), (13, .i2l, 1, 14), (14, .lconst 0, 1, 15), (15, .aload_n 0, 1, 16), (16, .getfield 201, 3, 19), (19, .i2l, 1, 20), (20, .invokestatic 129, 3, 23), (23, .ifCond .eq 15, 3, 26), (26, .iload_n 2, 1, 27), (27, .i2l, 1, 28), (28, .lconst 0, 1, 29), (29, .ldc2_w 310, 3, 32), (32, .invokestatic 129, 3, 35), (35, .ifCond .ne 5, 3, 38), (38, .iconst (-1), 1, 39), (39, .ireturn, 1, 40), (40, .iconst 0, 1, 41), (41, .istore 4, 2, 43), (43, .iconst 0, 1, 44), (44, .istore 5, 2, 46), (46, .iconst 0, 1, 47), (47, .istore 6, 2, 49), (49, .iconst 0, 1, 50), (50, .istore 7, 2, 52), (52, .iload 7, 2, 54), (54, .aload_n 0, 1, 55), (55, .getfield 198, 3, 58), (58, .if_icmp .ge 57, 3, 61), (61, .aload_n 0, 1, 62), (62, .getfield 71, 3, 65), (65, .iload 7, 2, 67), (67, .iaload, 1, 68), (68, .iload_n 1, 1, 69), (69, .if_icmp .eq 6, 3, 72), (72, .goto 37, 3, 75), (75, .iinc 4 1, 3, 78), (78, .iload 5, 2, 80), (80, .aload_n 0, 1, 81), (81, .getfield 83, 3, 84), (84, .iload 7, 2, 86), (86, .iaload, 1, 87), (87, .aload_n 0, 1, 88), (88, .getfield 80, 3, 91), (91, .iload 7, 2, 93), (93, .iaload, 1, 94), (94, .isub, 1, 95), (95, .iadd, 1, 96), (96, .istore 5, 2, 98), (98, .iload 6, 2, 100), (100, .aload_n 0, 1, 101), (101, .iload 7, 2, 103), (103, .invokevirtual 257, 3, 106), (106, .iadd, 1, 107), (107, .istore 6, 2, 109), (109, .iinc 7 1, 3, 112), (112, .goto (-60), 3, 115), (115, .iload_n 2, 1, 116), (116, .tableswitch 47 0 3 #[32, 35, 38, 44], 32, 148), (148, .iload 4, 2, 150), (150, .ireturn, 1, 151), (151, .iload 5, 2, 153), (153, .ireturn, 1, 154), (154, .aload_n 0, 1, 155), (155, .iload_n 1, 1, 156), (156, .invokevirtual 326, 3, 159), (159, .ireturn, 1, 160), (160, .iload 6, 2, 162), (162, .ireturn, 1, 163), (163, .aload_n 0, 1, 164), (164, .iload_n 1, 1, 165), (165, .invokevirtual 329, 3, 168), (168, .ireturn, 1, 169)]
theorem jd_Model_page : qm_D prog_11_method_68_code jl_Model_page := qm_D_of (by decide +kernel)
noncomputable def jf_Model_page (this : Nat) (p1 : Int32) (p2 : Int32) : qm_M Int32 :=
  mB (jf_Model_pours this) fun x1 =>
  mB (jf_Model_blocks this) fun x2 =>
  if x2 = 0 then
    mP (-1)
  else
    mB (mGt this 33) fun x3 =>
    mB (jf_Model_in (Int32.toInt64 p1) (0 : Int64) (Int32.toInt64 x3)) fun x4 =>
    if x4 = 0 then
      mP (-1)
    else
      mB (jf_Model_in (Int32.toInt64 p2) (0 : Int64) (4 : Int64)) fun x5 =>
      if ¬ x5 = 0 then
        mB (α := Int32 × Int32 × Int32) (
          mW (S := Int32 × Int32 × Int32 × Int32) (α := Int32 × Int32 × Int32) (fun s7 =>
            mB (mGt this 32) fun x8 =>
            if x8 ≤ s7.2.2.2 then
              mP (Sum.inr (s7.1, s7.2.1, s7.2.2.1))
            else
              mB (mLd (qm_rf this 23) s7.2.2.2) fun x9 =>
              mB (α := Int32 × Int32 × Int32) (
                if x9 = p1 then
                  mB (mP (s7.1 + 1)) fun x11 =>
                  mB (mLd (qm_rf this 27) s7.2.2.2) fun x12 =>
                  mB (mLd (qm_rf this 26) s7.2.2.2) fun x13 =>
                  mB (mP (s7.2.1 + (x12 - x13))) fun x14 =>
                  mB (jf_Model_linesIn this s7.2.2.2) fun x15 =>
                  mB (mP (s7.2.2.1 + x15)) fun x16 =>
                  mP (x11, x14, x16)
                else
                  mP (s7.1, s7.2.1, s7.2.2.1)) fun s10 =>
              mB (mP (s7.2.2.2 + 1)) fun x17 =>
              mP (Sum.inl (s10.1, s10.2.1, s10.2.2, x17))) (0, 0, 0, 0)) fun s6 =>
        if p2 = 0 then
          mP s6.1
        else
        if p2 = 1 then
          mP s6.2.1
        else
        if p2 = 2 then
          mB (jf_Model_spansOn this p1) fun x18 =>
          mP x18
        else
        if p2 = 3 then
          mP s6.2.2
        else
        mB (jf_Model_sectionsOn this p1) fun x19 =>
        mP x19
      else
        mP (-1)
set_option maxRecDepth 20000 in
set_option maxHeartbeats 4000000 in
theorem jb_Model_page {X : qm_X} (hX : qm_ok X qr_Model prog_11_method_68_code 8 10 248 jl_Model_page) {r0 : Int32} {σ0 : qm_Mem} (hR : qm_RI X r0 σ0 .int) (this : Nat) (p1 : Int32) (p2 : Int32) (hthis : (qm_kd this).1 = 19) : qm_B X (jf_Model_page this p1 p2) 0 [some (.ref (qx_ad X this)), some (.int p1), some (.int p2), none, none, none, none, none] [] (fun r σ1 => r = r0 ∧ σ1 = σ0) := by
  unfold jf_Model_page
  refine qb_aload_n hX 0 rfl rfl ?_
  refine qb_callI hX 1 rfl cv_Model_254 (jm_Model_pours (qk_GI hX) this  hthis ) (ci := 9) hthis ⟨rfl, rfl, rfl, by decide, by decide⟩ rfl (by exact Nat.le_of_ble_eq_true rfl) (fun x1 => ?_)
  refine qb_istore_n hX 2 ([some (.ref (qx_ad X this)), some (.int p1), some (.int p2), some (.int x1), none, none, none, none]) rfl (by decide) rfl ?_
  refine qb_aload_n hX 3 rfl rfl ?_
  refine qb_callI hX 4 rfl cv_Model_140 (jm_Model_blocks (qk_GI hX) this  hthis ) (ci := 9) hthis ⟨rfl, rfl, rfl, by decide, by decide⟩ rfl (by exact Nat.le_of_ble_eq_true rfl) (fun x2 => ?_)
  refine qb_ifeq hX 5 38 rfl (by decide) ?_ ?_
  ·
    refine qb_iconst hX 20 (-1) rfl (by decide) ?_
    exact qb_iret hX 21 rfl hR (fun _ h => h)
  ·
    refine qb_iload_n hX 6 rfl rfl ?_
    refine qb_i2l hX 7 rfl ?_
    refine qb_lconst hX 8 0 rfl (by decide) ?_
    refine qb_aload_n hX 9 rfl rfl ?_
    refine qb_get hX 10 rfl fl_Model_201 hthis rfl (fun x3 => ?_)
    refine qb_i2l hX 11 rfl ?_
    refine qb_calSI hX 12 rfl cv_Model_129 (jm_Model_in (qk_GI hX) (Int32.toInt64 p1) (0 : Int64) (Int32.toInt64 x3) ) ⟨rfl, by decide, by decide⟩ rfl (by exact Nat.le_of_ble_eq_true rfl) (fun x4 => ?_)
    refine qb_ifeq hX 13 38 rfl (by decide) ?_ ?_
    ·
      refine qb_iconst hX 20 (-1) rfl (by decide) ?_
      exact qb_iret hX 21 rfl hR (fun _ h => h)
    ·
      refine qb_iload_n hX 14 rfl rfl ?_
      refine qb_i2l hX 15 rfl ?_
      refine qb_lconst hX 16 0 rfl (by decide) ?_
      refine qb_ldc2w hX 17 4 rfl kl_Model_310 ?_
      refine qb_calSI hX 18 rfl cv_Model_129 (jm_Model_in (qk_GI hX) (Int32.toInt64 p2) (0 : Int64) (4 : Int64) ) ⟨rfl, by decide, by decide⟩ rfl (by exact Nat.le_of_ble_eq_true rfl) (fun x5 => ?_)
      refine qb_ifne hX 19 40 rfl (by decide) ?_ ?_
      ·
        refine qb_iconst hX 22 0 rfl (by decide) ?_
        refine qb_istore hX 23 ([some (.ref (qx_ad X this)), some (.int p1), some (.int p2), some (.int x1), some (.int 0), none, none, none]) rfl (by decide) rfl ?_
        refine qb_iconst hX 24 0 rfl (by decide) ?_
        refine qb_istore hX 25 ([some (.ref (qx_ad X this)), some (.int p1), some (.int p2), some (.int x1), some (.int 0), some (.int 0), none, none]) rfl (by decide) rfl ?_
        refine qb_iconst hX 26 0 rfl (by decide) ?_
        refine qb_istore hX 27 ([some (.ref (qx_ad X this)), some (.int p1), some (.int p2), some (.int x1), some (.int 0), some (.int 0), some (.int 0), none]) rfl (by decide) rfl ?_
        refine qb_iconst hX 28 0 rfl (by decide) ?_
        refine qb_istore hX 29 ([some (.ref (qx_ad X this)), some (.int p1), some (.int p2), some (.int x1), some (.int 0), some (.int 0), some (.int 0), some (.int 0)]) rfl (by decide) rfl ?_
        refine qb_join 115 (fun s6 => [some (.ref (qx_ad X this)), some (.int p1), some (.int p2), none, some (.int s6.1), some (.int s6.2.1), some (.int s6.2.2), none]) (fun s6 => []) ?_ ?_
        ·
          refine qb_loopw ((0, 0, 0, 0)) (fun s7 => [some (.ref (qx_ad X this)), some (.int p1), some (.int p2), none, some (.int s7.1), some (.int s7.2.1), some (.int s7.2.2.1), some (.int s7.2.2.2)]) (qw_s (qw_s (qw_s (qw_n (qw_s (qw_s (qw_s (qw_s (qw_0))))))))) (fun s7 => ?_)
          refine qb_iload hX 30 rfl rfl ?_
          refine qb_aload_n hX 31 rfl rfl ?_
          refine qb_get hX 32 rfl fl_Model_198 hthis rfl (fun x8 => ?_)
          refine qb_icge hX 33 115 rfl (by decide) ?_ ?_
          ·
            exact qb_exit (fun σ h => qj_wk (ρ' := [some (.ref (qx_ad X this)), some (.int p1), some (.int p2), none, some (.int s7.1), some (.int s7.2.1), some (.int s7.2.2.1), none]) (qw_s (qw_s (qw_s (qw_n (qw_s (qw_s (qw_s (qw_n (qw_0))))))))) h)
          ·
            refine qb_aload_n hX 34 rfl rfl ?_
            refine qb_getR hX 35 rfl fl_Model_71 hthis rfl ?_
            refine qb_iload hX 36 rfl rfl ?_
            refine qb_iald hX 37 rfl (kf_Model_23 hthis) (fun x9 => ?_)
            refine qb_iload_n hX 38 rfl rfl ?_
            refine qb_join 109 (fun s10 => [some (.ref (qx_ad X this)), some (.int p1), some (.int p2), none, some (.int s10.1), some (.int s10.2.1), some (.int s10.2.2), some (.int s7.2.2.2)]) (fun s10 => []) ?_ ?_
            ·
              refine qb_iceq hX 39 75 rfl (by decide) ?_ ?_
              ·
                refine qb_iinc hX 41 1 (fun x11 => [some (.ref (qx_ad X this)), some (.int p1), some (.int p2), none, some (.int x11), some (.int s7.2.1), some (.int s7.2.2.1), some (.int s7.2.2.2)]) rfl (by decide) (by decide) rfl (fun _ => rfl) (fun x11 => ?_)
                refine qb_iload hX 42 rfl rfl ?_
                refine qb_aload_n hX 43 rfl rfl ?_
                refine qb_getR hX 44 rfl fl_Model_83 hthis rfl ?_
                refine qb_iload hX 45 rfl rfl ?_
                refine qb_iald hX 46 rfl (kf_Model_27 hthis) (fun x12 => ?_)
                refine qb_aload_n hX 47 rfl rfl ?_
                refine qb_getR hX 48 rfl fl_Model_80 hthis rfl ?_
                refine qb_iload hX 49 rfl rfl ?_
                refine qb_iald hX 50 rfl (kf_Model_26 hthis) (fun x13 => ?_)
                refine qb_isub hX 51 rfl ?_
                refine qb_iadd hX 52 rfl ?_
                refine qb_istoreL hX 53 (fun x14 => [some (.ref (qx_ad X this)), some (.int p1), some (.int p2), none, some (.int x11), some (.int x14), some (.int s7.2.2.1), some (.int s7.2.2.2)]) rfl (by decide) (fun _ => rfl) (fun x14 => ?_)
                refine qb_iload hX 54 rfl rfl ?_
                refine qb_aload_n hX 55 rfl rfl ?_
                refine qb_iload hX 56 rfl rfl ?_
                refine qb_callI hX 57 rfl cv_Model_257 (jm_Model_linesIn (qk_GI hX) this s7.2.2.2 hthis ) (ci := 9) hthis ⟨rfl, rfl, rfl, by decide, by decide⟩ rfl (by exact Nat.le_of_ble_eq_true rfl) (fun x15 => ?_)
                refine qb_iadd hX 58 rfl ?_
                refine qb_istoreL hX 59 (fun x16 => [some (.ref (qx_ad X this)), some (.int p1), some (.int p2), none, some (.int x11), some (.int x14), some (.int x16), some (.int s7.2.2.2)]) rfl (by decide) (fun _ => rfl) (fun x16 => ?_)
                exact qb_exit (fun σ h => qj_wk (ρ' := [some (.ref (qx_ad X this)), some (.int p1), some (.int p2), none, some (.int x11), some (.int x14), some (.int x16), some (.int s7.2.2.2)]) (qw_s (qw_s (qw_s (qw_n (qw_s (qw_s (qw_s (qw_s (qw_0))))))))) h)
              ·
                exact qb_exit (fun σ h => qj_goto hX 40 rfl (by decide) (qj_wk (ρ' := [some (.ref (qx_ad X this)), some (.int p1), some (.int p2), none, some (.int s7.1), some (.int s7.2.1), some (.int s7.2.2.1), some (.int s7.2.2.2)]) (qw_s (qw_s (qw_s (qw_n (qw_s (qw_s (qw_s (qw_s (qw_0))))))))) h))
            · intro s10
              refine qb_iinc hX 60 1 (fun x17 => [some (.ref (qx_ad X this)), some (.int p1), some (.int p2), none, some (.int s10.1), some (.int s10.2.1), some (.int s10.2.2), some (.int x17)]) rfl (by decide) (by decide) rfl (fun _ => rfl) (fun x17 => ?_)
              exact qb_exit (fun σ h => qj_goto hX 61 rfl (by decide) (qj_wk (ρ' := [some (.ref (qx_ad X this)), some (.int p1), some (.int p2), none, some (.int s10.1), some (.int s10.2.1), some (.int s10.2.2), some (.int x17)]) (qw_s (qw_s (qw_s (qw_n (qw_s (qw_s (qw_s (qw_s (qw_0))))))))) h))
        · intro s6
          refine qb_iload_n hX 62 rfl rfl ?_
          refine qb_swc 0 ?_ (fun h0 => ?_)
          ·
            refine qb_tin hX 63 148 rfl (by decide) (by decide) rfl (by decide) ?_
            refine qb_iload hX 64 rfl rfl ?_
            exact qb_iret hX 65 rfl hR (fun _ h => h)
          refine qb_swc 1 ?_ (fun h1 => ?_)
          ·
            refine qb_tin hX 63 151 rfl (by decide) (by decide) rfl (by decide) ?_
            refine qb_iload hX 66 rfl rfl ?_
            exact qb_iret hX 67 rfl hR (fun _ h => h)
          refine qb_swc 2 ?_ (fun h2 => ?_)
          ·
            refine qb_tin hX 63 154 rfl (by decide) (by decide) rfl (by decide) ?_
            refine qb_aload_n hX 68 rfl rfl ?_
            refine qb_iload_n hX 69 rfl rfl ?_
            refine qb_callI hX 70 rfl cv_Model_326 (jm_Model_spansOn (qk_GI hX) this p1 hthis ) (ci := 9) hthis ⟨rfl, rfl, rfl, by decide, by decide⟩ rfl (by exact Nat.le_of_ble_eq_true rfl) (fun x18 => ?_)
            exact qb_iret hX 71 rfl hR (fun _ h => h)
          refine qb_swc 3 ?_ (fun h3 => ?_)
          ·
            refine qb_tin hX 63 160 rfl (by decide) (by decide) rfl (by decide) ?_
            refine qb_iload hX 72 rfl rfl ?_
            exact qb_iret hX 73 rfl hR (fun _ h => h)
          refine qb_tout hX 63 163 rfl (by have g0 := lv_neT (a := 0) h0 (by decide); have g1 := lv_neT (a := 1) h1 (by decide); have g2 := lv_neT (a := 2) h2 (by decide); have g3 := lv_neT (a := 3) h3 (by decide); omega) (by decide) ?_
          refine qb_aload_n hX 74 rfl rfl ?_
          refine qb_iload_n hX 75 rfl rfl ?_
          refine qb_callI hX 76 rfl cv_Model_329 (jm_Model_sectionsOn (qk_GI hX) this p1 hthis ) (ci := 9) hthis ⟨rfl, rfl, rfl, by decide, by decide⟩ rfl (by exact Nat.le_of_ble_eq_true rfl) (fun x19 => ?_)
          exact qb_iret hX 77 rfl hR (fun _ h => h)
      ·
        refine qb_iconst hX 20 (-1) rfl (by decide) ?_
        exact qb_iret hX 21 rfl hR (fun _ h => h)
theorem jm_Model_page {l : Launch} {G : qm_G} (hG : qm_GI G) (this : Nat) (p1 : Int32) (p2 : Int32) (hthis : (qm_kd this).1 = 19) : qm_MI l G jy_Model_page prog_11_method_68_code 8 (some .int) 10 248 [.ref (G.1 this), .int p1, .int p2] (jf_Model_page this p1 p2) :=
  qm_metI (by decide +kernel) jd_Model_page (fun v hv => by simp only [List.mem_cons, List.not_mem_nil, or_false] at hv; rcases hv with rfl | rfl | rfl <;> rfl) (by exact Nat.le_of_ble_eq_true rfl) hG rfl (fun X hl hg hX r0 σ0 hR => by subst hl; subst hg; exact jb_Model_page hX hR this p1 p2 hthis)
def jl_Model_goesBy : List qm_I := [(0, .iload_n 2, 1, 1), (1, .istore 5, 2, 3), (3, .iload 5, 2, 5), (5, .aload_n 0, 1, 6), (6, .iload_n 1, 1, 7), (7, .invokevirtual 179, 3, 10), (10, .if_icmp .gt 86, 3, 13), (13, .iload 5, 2, 15), (15, .iload_n 2, 1, 16), (16, .if_icmp .le 13, 3, 19), (19, .aload_n 0, 1, 20), (20, .iload_n 1, 1, 21), (21, .iload 5, 2, 23), (23, .invokevirtual 182, 3, 26), (26, .ifCond .eq 64, 3, 29), (29, .aload_n 0, 1, 30), (30, .iload_n 2, 1, 31), (31, .iload 5, 2, 33), (33, .iload_n 3, 1, 34), (34, .iload 4, 2, 36), (36, .invokevirtual 235, 3, 39), (39, .ifCond .ne 6, 3, 42), (42, .goto 48, 3, 45), (45, .aload_n 0, 1, 46), (46, .getfield 113, 3, 49), (49, .bipush 20, 2, 51), (51, .iload 5, 2, 53), (53, .imul, 1, 54), (54, .iload_n 3, 1, 55), (55, .iadd, 1, 56), (56, .aload_n 0, 1, 57), (57, .iload_n 2, 1, 58), (58, .iload 5, 2, 60), (60, .invokevirtual 172, 3, 63), (63, .iadd, 1, 64), (64, .aload_n 0, 1, 65), (65, .iload_n 2, 1, 66), (66, .iload 5, 2, 68), (68, .iload_n 3, 1, 69), (69, .iload 4, 2, 71), (71, .invokevirtual 213, 3, 74), (74, .isub, 1, 75), (75, .dup2, 1, 76), (76, .iaload, 1, 77), (77, .aload_n 0, 1, 78), (78, .getfield 110, 3, 81), (81, .bipush 20, 2, 83), (83, .iload_n 2, 1, 84), (84, .imul, 1, 85), (85, .iload_n 3, 1, 86), (86, .iadd, 1, 87), (87, .iaload, 1, 88), (88, .iadd, 1, 89), (89, .iastore, 1, 90), (90, .iinc 5 1, 3, 93), (93, .goto (-90), 3, 96), (96, .return_, 1, 97)]
theorem jd_Model_goesBy : qm_D prog_11_method_69_code jl_Model_goesBy := qm_D_of (by decide +kernel)
noncomputable def jf_Model_goesBy (this : Nat) (p1 : Int32) (p2 : Int32) (p3 : Int32) (p4 : Int32) : qm_M Unit :=
  mB (α := Unit) (
    mW (S := Int32) (α := Unit) (fun s2 =>
      mB (jf_Model_endOf this p1) fun x3 =>
      if x3 < s2 then
        mP (Sum.inr ())
      else
        mB (α := Unit) (
          mB (α := (Unit ⊕ Unit)) (
            if s2 ≤ p2 then
              mP (Sum.inl ())
            else
              mB (jf_Model_isEnd this p1 s2) fun x6 =>
              if x6 = 0 then
                mP (Sum.inr ())
              else
                mP (Sum.inl ())) (Sum.elim (fun s5 =>
            mB (jf_Model_canEnd this p2 s2 p3 p4) fun x7 =>
            if ¬ x7 = 0 then
              mB (jf_Model_ownOf this p2 s2) fun x8 =>
              mB (jf_Model_standsOf this p2 s2 p3 p4) fun x9 =>
              mB (mLd (qm_rf this 43) ((((20 * s2) + p3) + x8) - x9)) fun x10 =>
              mB (mLd (qm_rf this 42) ((20 * p2) + p3)) fun x11 =>
              mB (mSt (qm_rf this 43) ((((20 * s2) + p3) + x8) - x9) (x10 + x11)) fun _ =>
              mP ()
            else
              mP ()) mP)) fun s4 =>
        mB (mP (s2 + 1)) fun x12 =>
        mP (Sum.inl x12)) p2) fun s1 =>
  mP ()
set_option maxRecDepth 20000 in
set_option maxHeartbeats 4000000 in
theorem jb_Model_goesBy {X : qm_X} (hX : qm_ok X qr_Model prog_11_method_69_code 6 4 95 jl_Model_goesBy) {σ0 : qm_Mem} (hR : qm_RV X σ0) (this : Nat) (p1 : Int32) (p2 : Int32) (p3 : Int32) (p4 : Int32) (hthis : (qm_kd this).1 = 19) : qm_B X (jf_Model_goesBy this p1 p2 p3 p4) 0 [some (.ref (qx_ad X this)), some (.int p1), some (.int p2), some (.int p3), some (.int p4), none] [] (fun _ σ1 => σ1 = σ0) := by
  unfold jf_Model_goesBy
  refine qb_iload_n hX 0 rfl rfl ?_
  refine qb_istore hX 1 ([some (.ref (qx_ad X this)), some (.int p1), some (.int p2), some (.int p3), some (.int p4), some (.int p2)]) rfl (by decide) rfl ?_
  refine qb_join 96 (fun s1 => [none, none, none, none, none, none]) (fun s1 => []) ?_ ?_
  ·
    refine qb_loopw (p2) (fun s2 => [some (.ref (qx_ad X this)), some (.int p1), some (.int p2), some (.int p3), some (.int p4), some (.int s2)]) (qw_s (qw_s (qw_s (qw_s (qw_s (qw_s (qw_0))))))) (fun s2 => ?_)
    refine qb_iload hX 2 rfl rfl ?_
    refine qb_aload_n hX 3 rfl rfl ?_
    refine qb_iload_n hX 4 rfl rfl ?_
    refine qb_callI hX 5 rfl cv_Model_179 (jm_Model_endOf (qk_GI hX) this p1 hthis ) (ci := 9) hthis ⟨rfl, rfl, rfl, by decide, by decide⟩ rfl (by exact Nat.le_of_ble_eq_true rfl) (fun x3 => ?_)
    refine qb_icgt hX 6 96 rfl (by decide) ?_ ?_
    ·
      exact qb_exit (fun σ h => qj_wk (ρ' := [none, none, none, none, none, none]) (qw_n (qw_n (qw_n (qw_n (qw_n (qw_n (qw_0))))))) h)
    ·
      refine qb_iload hX 7 rfl rfl ?_
      refine qb_iload_n hX 8 rfl rfl ?_
      refine qb_join 90 (fun s4 => [some (.ref (qx_ad X this)), some (.int p1), some (.int p2), some (.int p3), some (.int p4), some (.int s2)]) (fun s4 => []) ?_ ?_
      ·
        refine qb_join2 29 (fun s5 => [some (.ref (qx_ad X this)), some (.int p1), some (.int p2), some (.int p3), some (.int p4), some (.int s2)]) (fun s5 => []) ?_ ?_
        ·
          refine qb_icle hX 9 29 rfl (by decide) ?_ ?_
          ·
            exact qb_exit (fun σ h => qj_wk (ρ' := [some (.ref (qx_ad X this)), some (.int p1), some (.int p2), some (.int p3), some (.int p4), some (.int s2)]) (qw_s (qw_s (qw_s (qw_s (qw_s (qw_s (qw_0))))))) h)
          ·
            refine qb_aload_n hX 10 rfl rfl ?_
            refine qb_iload_n hX 11 rfl rfl ?_
            refine qb_iload hX 12 rfl rfl ?_
            refine qb_callI hX 13 rfl cv_Model_182 (jm_Model_isEnd (qk_GI hX) this p1 s2 hthis ) (ci := 9) hthis ⟨rfl, rfl, rfl, by decide, by decide⟩ rfl (by exact Nat.le_of_ble_eq_true rfl) (fun x6 => ?_)
            refine qb_ifeq hX 14 90 rfl (by decide) ?_ ?_
            ·
              exact qb_exit (fun σ h => qj_wk (ρ' := [some (.ref (qx_ad X this)), some (.int p1), some (.int p2), some (.int p3), some (.int p4), some (.int s2)]) (qw_s (qw_s (qw_s (qw_s (qw_s (qw_s (qw_0))))))) h)
            ·
              exact qb_exit (fun σ h => qj_wk (ρ' := [some (.ref (qx_ad X this)), some (.int p1), some (.int p2), some (.int p3), some (.int p4), some (.int s2)]) (qw_s (qw_s (qw_s (qw_s (qw_s (qw_s (qw_0))))))) h)
        · intro s5
          refine qb_aload_n hX 15 rfl rfl ?_
          refine qb_iload_n hX 16 rfl rfl ?_
          refine qb_iload hX 17 rfl rfl ?_
          refine qb_iload_n hX 18 rfl rfl ?_
          refine qb_iload hX 19 rfl rfl ?_
          refine qb_callI hX 20 rfl cv_Model_235 (jm_Model_canEnd (qk_GI hX) this p2 s2 p3 p4 hthis ) (ci := 9) hthis ⟨rfl, rfl, rfl, by decide, by decide⟩ rfl (by exact Nat.le_of_ble_eq_true rfl) (fun x7 => ?_)
          refine qb_ifne hX 21 45 rfl (by decide) ?_ ?_
          ·
            refine qb_aload_n hX 23 rfl rfl ?_
            refine qb_getR hX 24 rfl fl_Model_113 hthis rfl ?_
            refine qb_bipush hX 25 20 rfl (by decide) ?_
            refine qb_iload hX 26 rfl rfl ?_
            refine qb_imul hX 27 rfl ?_
            refine qb_iload_n hX 28 rfl rfl ?_
            refine qb_iadd hX 29 rfl ?_
            refine qb_aload_n hX 30 rfl rfl ?_
            refine qb_iload_n hX 31 rfl rfl ?_
            refine qb_iload hX 32 rfl rfl ?_
            refine qb_callI hX 33 rfl cv_Model_172 (jm_Model_ownOf (qk_GI hX) this p2 s2 hthis ) (ci := 9) hthis ⟨rfl, rfl, rfl, by decide, by decide⟩ rfl (by exact Nat.le_of_ble_eq_true rfl) (fun x8 => ?_)
            refine qb_iadd hX 34 rfl ?_
            refine qb_aload_n hX 35 rfl rfl ?_
            refine qb_iload_n hX 36 rfl rfl ?_
            refine qb_iload hX 37 rfl rfl ?_
            refine qb_iload_n hX 38 rfl rfl ?_
            refine qb_iload hX 39 rfl rfl ?_
            refine qb_callI hX 40 rfl cv_Model_213 (jm_Model_standsOf (qk_GI hX) this p2 s2 p3 p4 hthis ) (ci := 9) hthis ⟨rfl, rfl, rfl, by decide, by decide⟩ rfl (by exact Nat.le_of_ble_eq_true rfl) (fun x9 => ?_)
            refine qb_isub hX 41 rfl ?_
            refine qb_dup2 hX 42 rfl rfl rfl ?_
            refine qb_iald hX 43 rfl (kf_Model_43 hthis) (fun x10 => ?_)
            refine qb_aload_n hX 44 rfl rfl ?_
            refine qb_getR hX 45 rfl fl_Model_110 hthis rfl ?_
            refine qb_bipush hX 46 20 rfl (by decide) ?_
            refine qb_iload_n hX 47 rfl rfl ?_
            refine qb_imul hX 48 rfl ?_
            refine qb_iload_n hX 49 rfl rfl ?_
            refine qb_iadd hX 50 rfl ?_
            refine qb_iald hX 51 rfl (kf_Model_42 hthis) (fun x11 => ?_)
            refine qb_iadd hX 52 rfl ?_
            refine qb_iast hX 53 rfl (kf_Model_43 hthis) ?_
            exact qb_exit (fun σ h => qj_wk (ρ' := [some (.ref (qx_ad X this)), some (.int p1), some (.int p2), some (.int p3), some (.int p4), some (.int s2)]) (qw_s (qw_s (qw_s (qw_s (qw_s (qw_s (qw_0))))))) h)
          ·
            exact qb_exit (fun σ h => qj_goto hX 22 rfl (by decide) (qj_wk (ρ' := [some (.ref (qx_ad X this)), some (.int p1), some (.int p2), some (.int p3), some (.int p4), some (.int s2)]) (qw_s (qw_s (qw_s (qw_s (qw_s (qw_s (qw_0))))))) h))
      · intro s4
        refine qb_iinc hX 54 1 (fun x12 => [some (.ref (qx_ad X this)), some (.int p1), some (.int p2), some (.int p3), some (.int p4), some (.int x12)]) rfl (by decide) (by decide) rfl (fun _ => rfl) (fun x12 => ?_)
        exact qb_exit (fun σ h => qj_goto hX 55 rfl (by decide) (qj_wk (ρ' := [some (.ref (qx_ad X this)), some (.int p1), some (.int p2), some (.int p3), some (.int p4), some (.int x12)]) (qw_s (qw_s (qw_s (qw_s (qw_s (qw_s (qw_0))))))) h))
  · intro s1
    exact qb_vret hX 56 rfl hR (fun _ h => h)
theorem jm_Model_goesBy {l : Launch} {G : qm_G} (hG : qm_GI G) (this : Nat) (p1 : Int32) (p2 : Int32) (p3 : Int32) (p4 : Int32) (hthis : (qm_kd this).1 = 19) : qm_MV l G jy_Model_goesBy prog_11_method_69_code 6 4 95 [.ref (G.1 this), .int p1, .int p2, .int p3, .int p4] (jf_Model_goesBy this p1 p2 p3 p4) :=
  qm_metV (by decide +kernel) jd_Model_goesBy (fun v hv => by simp only [List.mem_cons, List.not_mem_nil, or_false] at hv; rcases hv with rfl | rfl | rfl | rfl | rfl <;> rfl) (by exact Nat.le_of_ble_eq_true rfl) hG (fun X hl hg hX σ0 hR => by subst hl; subst hg; exact jb_Model_goesBy hX hR this p1 p2 p3 p4 hthis)
def jl_Model_ways : List qm_I := [(0, .aload_n 0, 1, 1), (1, .invokevirtual 245, 3, 4), (4, .aload_n 0, 1, 5), (5, .iload_n 1, 1, 6), (6, .invokevirtual 284, 3, 9), (9, .ifCond .eq 15, 3, 12), (12, .iload_n 2, 1, 13), (13, .i2l, 1, 14), (14, .lconst 0, 1, 15), (15, .ldc2_w 290, 3, 18), (18, .invokestatic 129, 3, 21), (21, .ifCond .ne 5, 3, 24), (24, .iconst (-1), 1, 25), (25, .ireturn, 1, 26), (26, .iconst 0, 1, 27), (27, .istore_n 3, 1, 28), (28, .iload_n 3, 1, 29), (29, .sipush 1840, 3, 32), (32, .if_icmp .ge 16, 3, 35), (35, .aload_n 0, 1, 36), (36, .getfield 110, 3, 39), (39, .iload_n 3, 1, 40), (40, .iconst 0, 1, 41), (41, .iastore, 1, 42), (42, .iinc 3 1, 3, 45), (45, .goto (-17), 3, 48), (48, .aload_n 0, 1, 49), (49, .getfield 110, 3, 52), (52, .bipush 20, 2, 54), (54, .aload_n 0, 1, 55), (55, .getfield 47, 3, 58), (58, .iload_n 1, 1, 59), (59, .iaload, 1, 60), (60, .imul, 1, 61), (61, .iconst 1, 1, 62), (62, .iastore, 1, 63), (63, .iconst 0, 1, 64), (64, .istore_n 3, 1, 65), (65, .iload_n 3, 1, 66), (66, .aload_n 0, 1, 67), (67, .getfield 7, 3, 70), (70, .iconst 0, 1, 71), (71, .iaload, 1, 72), (72, .if_icmp .ge 108, 3, 75), (75, .iconst 0, 1, 76), (76, .istore 4, 2, 78), (78, .iload 4, 2, 80), (80, .sipush 1840, 3, 83), (83, .if_icmp .ge 17, 3, 86), (86, .aload_n 0, 1, 87), (87, .getfield 113, 3, 90), (90, .iload 4, 2, 92), (92, .iconst 0, 1, 93), (93, .iastore, 1, 94), (94, .iinc 4 1, 3, 97), (97, .goto (-19), 3, 100), (100, .iconst 0, 1, 101), (101, .istore 4, 2, 103), (103, .iload 4, 2, 105), (105, .sipush 1840, 3, 108), (108, .if_icmp .ge 35, 3, 111), (111, .aload_n 0, 1, 112), (112, .getfield 110, 3, 115), (115, .iload 4, 2, 117), (117, .iaload, 1, 118), (118, .ifCond .le 19, 3, 121), (121, .aload_n 0, 1, 122), (122, .iload_n 1, 1, 123), (123, .iload 4, 2, 125), (125, .bipush 20, 2, 127), (127, .idiv, 1, 128), (128, .iload 4, 2, 130), (130, .bipush 20, 2, 132), (132, .irem, 1, 133), (133, .iload_n 2, 1, 134), (134, .invokevirtual 332, 3, 137), (137, .iinc 4 1, 3, 140), (140, .goto (-37), 3, 143), (143, .iconst 0, 1, 144), (144, .istore 4, 2, 146), (146, .iload 4, 2, 148), (148, .sipush 1840, 3, 151), (151, .if_icmp .ge 23, 3, 154), (154, .aload_n 0, 1, 155), (155, .getfield 110, 3, 158), (158, .iload 4, 2, 160), (160, .aload_n 0, 1, 161), (161, .getfield 113, 3, 164), (164, .iload 4, 2, 166), (166, .iaload, 1, 167), (167, .iastore, 1, 168), (168, .iinc 4 1, 3, 171), (171, .goto (-25), 3, 174), (174, .iinc 3 1, 3, 177), (177, .goto (-112), 3, 180), (180, .aload_n 0, 1, 181), (181, .getfield 110, 3, 184), (184, .bipush 20, 2, 186), (186, .aload_n 0, 1, 187), (187, .iload_n 1, 1, 188), (188, .invokevirtual 179, 3, 191), (191, .imul, 1, 192), (192, .iaload, 1, 193), (193, .ireturn, 1, 194)]
theorem jd_Model_ways : qm_D prog_11_method_70_code jl_Model_ways := qm_D_of (by decide +kernel)
noncomputable def jf_Model_ways (this : Nat) (p1 : Int32) (p2 : Int32) : qm_M Int32 :=
  mB (jf_Model_lays this) fun _ =>
  mB (jf_Model_isSection this p1) fun x1 =>
  if x1 = 0 then
    mP (-1)
  else
    mB (jf_Model_in (Int32.toInt64 p2) (0 : Int64) (2000 : Int64)) fun x2 =>
    if ¬ x2 = 0 then
      mB (α := Unit) (
        mW (S := Int32) (α := Unit) (fun s4 =>
          if 1840 ≤ s4 then
            mP (Sum.inr ())
          else
            mB (mSt (qm_rf this 42) s4 0) fun _ =>
            mB (mP (s4 + 1)) fun x5 =>
            mP (Sum.inl x5)) 0) fun s3 =>
      mB (mLd (qm_rf this 14) p1) fun x6 =>
      mB (mSt (qm_rf this 42) (20 * x6) 1) fun _ =>
      mB (α := Unit) (
        mW (S := Int32) (α := Unit) (fun s8 =>
          mB (mLd (qm_rf this 0) 0) fun x9 =>
          if x9 ≤ s8 then
            mP (Sum.inr ())
          else
            mB (α := Unit) (
              mW (S := Int32) (α := Unit) (fun s11 =>
                if 1840 ≤ s11 then
                  mP (Sum.inr ())
                else
                  mB (mSt (qm_rf this 43) s11 0) fun _ =>
                  mB (mP (s11 + 1)) fun x12 =>
                  mP (Sum.inl x12)) 0) fun s10 =>
            mB (α := Unit) (
              mW (S := Int32) (α := Unit) (fun s14 =>
                if 1840 ≤ s14 then
                  mP (Sum.inr ())
                else
                  mB (mLd (qm_rf this 42) s14) fun x15 =>
                  mB (α := Unit) (
                    if x15 ≤ 0 then
                      mP ()
                    else
                      mB (mDv s14 20) fun x17 =>
                      mB (mRm s14 20) fun x18 =>
                      mB (jf_Model_goesBy this p1 x17 x18 p2) fun _ =>
                      mP ()) fun s16 =>
                  mB (mP (s14 + 1)) fun x19 =>
                  mP (Sum.inl x19)) 0) fun s13 =>
            mB (α := Unit) (
              mW (S := Int32) (α := Unit) (fun s21 =>
                if 1840 ≤ s21 then
                  mP (Sum.inr ())
                else
                  mB (mLd (qm_rf this 43) s21) fun x22 =>
                  mB (mSt (qm_rf this 42) s21 x22) fun _ =>
                  mB (mP (s21 + 1)) fun x23 =>
                  mP (Sum.inl x23)) 0) fun s20 =>
            mB (mP (s8 + 1)) fun x24 =>
            mP (Sum.inl x24)) 0) fun s7 =>
      mB (jf_Model_endOf this p1) fun x25 =>
      mB (mLd (qm_rf this 42) (20 * x25)) fun x26 =>
      mP x26
    else
      mP (-1)
set_option maxRecDepth 20000 in
set_option maxHeartbeats 4000000 in
theorem jb_Model_ways {X : qm_X} (hX : qm_ok X qr_Model prog_11_method_70_code 5 5 120 jl_Model_ways) {r0 : Int32} {σ0 : qm_Mem} (hR : qm_RI X r0 σ0 .int) (this : Nat) (p1 : Int32) (p2 : Int32) (hthis : (qm_kd this).1 = 19) : qm_B X (jf_Model_ways this p1 p2) 0 [some (.ref (qx_ad X this)), some (.int p1), some (.int p2), none, none] [] (fun r σ1 => r = r0 ∧ σ1 = σ0) := by
  unfold jf_Model_ways
  refine qb_aload_n hX 0 rfl rfl ?_
  refine qb_callV hX 1 rfl cv_Model_245 (jm_Model_lays (qk_GI hX) this  hthis ) (ci := 9) hthis ⟨rfl, rfl, rfl, by decide, by decide⟩ rfl (by exact Nat.le_of_ble_eq_true rfl) ?_
  refine qb_aload_n hX 2 rfl rfl ?_
  refine qb_iload_n hX 3 rfl rfl ?_
  refine qb_callI hX 4 rfl cv_Model_284 (jm_Model_isSection (qk_GI hX) this p1 hthis ) (ci := 9) hthis ⟨rfl, rfl, rfl, by decide, by decide⟩ rfl (by exact Nat.le_of_ble_eq_true rfl) (fun x1 => ?_)
  refine qb_ifeq hX 5 24 rfl (by decide) ?_ ?_
  ·
    refine qb_iconst hX 12 (-1) rfl (by decide) ?_
    exact qb_iret hX 13 rfl hR (fun _ h => h)
  ·
    refine qb_iload_n hX 6 rfl rfl ?_
    refine qb_i2l hX 7 rfl ?_
    refine qb_lconst hX 8 0 rfl (by decide) ?_
    refine qb_ldc2w hX 9 2000 rfl kl_Model_290 ?_
    refine qb_calSI hX 10 rfl cv_Model_129 (jm_Model_in (qk_GI hX) (Int32.toInt64 p2) (0 : Int64) (2000 : Int64) ) ⟨rfl, by decide, by decide⟩ rfl (by exact Nat.le_of_ble_eq_true rfl) (fun x2 => ?_)
    refine qb_ifne hX 11 26 rfl (by decide) ?_ ?_
    ·
      refine qb_iconst hX 14 0 rfl (by decide) ?_
      refine qb_istore_n hX 15 ([some (.ref (qx_ad X this)), some (.int p1), some (.int p2), some (.int 0), none]) rfl (by decide) rfl ?_
      refine qb_join 48 (fun s3 => [some (.ref (qx_ad X this)), some (.int p1), some (.int p2), none, none]) (fun s3 => []) ?_ ?_
      ·
        refine qb_loopw (0) (fun s4 => [some (.ref (qx_ad X this)), some (.int p1), some (.int p2), some (.int s4), none]) (qw_s (qw_s (qw_s (qw_s (qw_n (qw_0)))))) (fun s4 => ?_)
        refine qb_iload_n hX 16 rfl rfl ?_
        refine qb_sipush hX 17 1840 rfl (by decide) ?_
        refine qb_icge hX 18 48 rfl (by decide) ?_ ?_
        ·
          exact qb_exit (fun σ h => qj_wk (ρ' := [some (.ref (qx_ad X this)), some (.int p1), some (.int p2), none, none]) (qw_s (qw_s (qw_s (qw_n (qw_n (qw_0)))))) h)
        ·
          refine qb_aload_n hX 19 rfl rfl ?_
          refine qb_getR hX 20 rfl fl_Model_110 hthis rfl ?_
          refine qb_iload_n hX 21 rfl rfl ?_
          refine qb_iconst hX 22 0 rfl (by decide) ?_
          refine qb_iast hX 23 rfl (kf_Model_42 hthis) ?_
          refine qb_iinc hX 24 1 (fun x5 => [some (.ref (qx_ad X this)), some (.int p1), some (.int p2), some (.int x5), none]) rfl (by decide) (by decide) rfl (fun _ => rfl) (fun x5 => ?_)
          exact qb_exit (fun σ h => qj_goto hX 25 rfl (by decide) (qj_wk (ρ' := [some (.ref (qx_ad X this)), some (.int p1), some (.int p2), some (.int x5), none]) (qw_s (qw_s (qw_s (qw_s (qw_n (qw_0)))))) h))
      · intro s3
        refine qb_aload_n hX 26 rfl rfl ?_
        refine qb_getR hX 27 rfl fl_Model_110 hthis rfl ?_
        refine qb_bipush hX 28 20 rfl (by decide) ?_
        refine qb_aload_n hX 29 rfl rfl ?_
        refine qb_getR hX 30 rfl fl_Model_47 hthis rfl ?_
        refine qb_iload_n hX 31 rfl rfl ?_
        refine qb_iald hX 32 rfl (kf_Model_14 hthis) (fun x6 => ?_)
        refine qb_imul hX 33 rfl ?_
        refine qb_iconst hX 34 1 rfl (by decide) ?_
        refine qb_iast hX 35 rfl (kf_Model_42 hthis) ?_
        refine qb_iconst hX 36 0 rfl (by decide) ?_
        refine qb_istore_n hX 37 ([some (.ref (qx_ad X this)), some (.int p1), some (.int p2), some (.int 0), none]) rfl (by decide) rfl ?_
        refine qb_join 180 (fun s7 => [some (.ref (qx_ad X this)), some (.int p1), none, none, none]) (fun s7 => []) ?_ ?_
        ·
          refine qb_loopw (0) (fun s8 => [some (.ref (qx_ad X this)), some (.int p1), some (.int p2), some (.int s8), none]) (qw_s (qw_s (qw_s (qw_s (qw_n (qw_0)))))) (fun s8 => ?_)
          refine qb_iload_n hX 38 rfl rfl ?_
          refine qb_aload_n hX 39 rfl rfl ?_
          refine qb_getR hX 40 rfl fl_Model_7 hthis rfl ?_
          refine qb_iconst hX 41 0 rfl (by decide) ?_
          refine qb_iald hX 42 rfl (kf_Model_0 hthis) (fun x9 => ?_)
          refine qb_icge hX 43 180 rfl (by decide) ?_ ?_
          ·
            exact qb_exit (fun σ h => qj_wk (ρ' := [some (.ref (qx_ad X this)), some (.int p1), none, none, none]) (qw_s (qw_s (qw_n (qw_n (qw_n (qw_0)))))) h)
          ·
            refine qb_iconst hX 44 0 rfl (by decide) ?_
            refine qb_istore hX 45 ([some (.ref (qx_ad X this)), some (.int p1), some (.int p2), some (.int s8), some (.int 0)]) rfl (by decide) rfl ?_
            refine qb_join 100 (fun s10 => [some (.ref (qx_ad X this)), some (.int p1), some (.int p2), some (.int s8), none]) (fun s10 => []) ?_ ?_
            ·
              refine qb_loopw (0) (fun s11 => [some (.ref (qx_ad X this)), some (.int p1), some (.int p2), some (.int s8), some (.int s11)]) (qw_s (qw_s (qw_s (qw_s (qw_s (qw_0)))))) (fun s11 => ?_)
              refine qb_iload hX 46 rfl rfl ?_
              refine qb_sipush hX 47 1840 rfl (by decide) ?_
              refine qb_icge hX 48 100 rfl (by decide) ?_ ?_
              ·
                exact qb_exit (fun σ h => qj_wk (ρ' := [some (.ref (qx_ad X this)), some (.int p1), some (.int p2), some (.int s8), none]) (qw_s (qw_s (qw_s (qw_s (qw_n (qw_0)))))) h)
              ·
                refine qb_aload_n hX 49 rfl rfl ?_
                refine qb_getR hX 50 rfl fl_Model_113 hthis rfl ?_
                refine qb_iload hX 51 rfl rfl ?_
                refine qb_iconst hX 52 0 rfl (by decide) ?_
                refine qb_iast hX 53 rfl (kf_Model_43 hthis) ?_
                refine qb_iinc hX 54 1 (fun x12 => [some (.ref (qx_ad X this)), some (.int p1), some (.int p2), some (.int s8), some (.int x12)]) rfl (by decide) (by decide) rfl (fun _ => rfl) (fun x12 => ?_)
                exact qb_exit (fun σ h => qj_goto hX 55 rfl (by decide) (qj_wk (ρ' := [some (.ref (qx_ad X this)), some (.int p1), some (.int p2), some (.int s8), some (.int x12)]) (qw_s (qw_s (qw_s (qw_s (qw_s (qw_0)))))) h))
            · intro s10
              refine qb_iconst hX 56 0 rfl (by decide) ?_
              refine qb_istore hX 57 ([some (.ref (qx_ad X this)), some (.int p1), some (.int p2), some (.int s8), some (.int 0)]) rfl (by decide) rfl ?_
              refine qb_join 143 (fun s13 => [some (.ref (qx_ad X this)), some (.int p1), some (.int p2), some (.int s8), none]) (fun s13 => []) ?_ ?_
              ·
                refine qb_loopw (0) (fun s14 => [some (.ref (qx_ad X this)), some (.int p1), some (.int p2), some (.int s8), some (.int s14)]) (qw_s (qw_s (qw_s (qw_s (qw_s (qw_0)))))) (fun s14 => ?_)
                refine qb_iload hX 58 rfl rfl ?_
                refine qb_sipush hX 59 1840 rfl (by decide) ?_
                refine qb_icge hX 60 143 rfl (by decide) ?_ ?_
                ·
                  exact qb_exit (fun σ h => qj_wk (ρ' := [some (.ref (qx_ad X this)), some (.int p1), some (.int p2), some (.int s8), none]) (qw_s (qw_s (qw_s (qw_s (qw_n (qw_0)))))) h)
                ·
                  refine qb_aload_n hX 61 rfl rfl ?_
                  refine qb_getR hX 62 rfl fl_Model_110 hthis rfl ?_
                  refine qb_iload hX 63 rfl rfl ?_
                  refine qb_iald hX 64 rfl (kf_Model_42 hthis) (fun x15 => ?_)
                  refine qb_join 137 (fun s16 => [some (.ref (qx_ad X this)), some (.int p1), some (.int p2), some (.int s8), some (.int s14)]) (fun s16 => []) ?_ ?_
                  ·
                    refine qb_ifle hX 65 137 rfl (by decide) ?_ ?_
                    ·
                      exact qb_exit (fun σ h => qj_wk (ρ' := [some (.ref (qx_ad X this)), some (.int p1), some (.int p2), some (.int s8), some (.int s14)]) (qw_s (qw_s (qw_s (qw_s (qw_s (qw_0)))))) h)
                    ·
                      refine qb_aload_n hX 66 rfl rfl ?_
                      refine qb_iload_n hX 67 rfl rfl ?_
                      refine qb_iload hX 68 rfl rfl ?_
                      refine qb_bipush hX 69 20 rfl (by decide) ?_
                      refine qb_idiv hX 70 rfl (fun x17 => ?_)
                      refine qb_iload hX 71 rfl rfl ?_
                      refine qb_bipush hX 72 20 rfl (by decide) ?_
                      refine qb_irem hX 73 rfl (fun x18 => ?_)
                      refine qb_iload_n hX 74 rfl rfl ?_
                      refine qb_callV hX 75 rfl cv_Model_332 (jm_Model_goesBy (qk_GI hX) this p1 x17 x18 p2 hthis ) (ci := 9) hthis ⟨rfl, rfl, rfl, by decide, by decide⟩ rfl (by exact Nat.le_of_ble_eq_true rfl) ?_
                      exact qb_exit (fun σ h => qj_wk (ρ' := [some (.ref (qx_ad X this)), some (.int p1), some (.int p2), some (.int s8), some (.int s14)]) (qw_s (qw_s (qw_s (qw_s (qw_s (qw_0)))))) h)
                  · intro s16
                    refine qb_iinc hX 76 1 (fun x19 => [some (.ref (qx_ad X this)), some (.int p1), some (.int p2), some (.int s8), some (.int x19)]) rfl (by decide) (by decide) rfl (fun _ => rfl) (fun x19 => ?_)
                    exact qb_exit (fun σ h => qj_goto hX 77 rfl (by decide) (qj_wk (ρ' := [some (.ref (qx_ad X this)), some (.int p1), some (.int p2), some (.int s8), some (.int x19)]) (qw_s (qw_s (qw_s (qw_s (qw_s (qw_0)))))) h))
              · intro s13
                refine qb_iconst hX 78 0 rfl (by decide) ?_
                refine qb_istore hX 79 ([some (.ref (qx_ad X this)), some (.int p1), some (.int p2), some (.int s8), some (.int 0)]) rfl (by decide) rfl ?_
                refine qb_join 174 (fun s20 => [some (.ref (qx_ad X this)), some (.int p1), some (.int p2), some (.int s8), none]) (fun s20 => []) ?_ ?_
                ·
                  refine qb_loopw (0) (fun s21 => [some (.ref (qx_ad X this)), some (.int p1), some (.int p2), some (.int s8), some (.int s21)]) (qw_s (qw_s (qw_s (qw_s (qw_s (qw_0)))))) (fun s21 => ?_)
                  refine qb_iload hX 80 rfl rfl ?_
                  refine qb_sipush hX 81 1840 rfl (by decide) ?_
                  refine qb_icge hX 82 174 rfl (by decide) ?_ ?_
                  ·
                    exact qb_exit (fun σ h => qj_wk (ρ' := [some (.ref (qx_ad X this)), some (.int p1), some (.int p2), some (.int s8), none]) (qw_s (qw_s (qw_s (qw_s (qw_n (qw_0)))))) h)
                  ·
                    refine qb_aload_n hX 83 rfl rfl ?_
                    refine qb_getR hX 84 rfl fl_Model_110 hthis rfl ?_
                    refine qb_iload hX 85 rfl rfl ?_
                    refine qb_aload_n hX 86 rfl rfl ?_
                    refine qb_getR hX 87 rfl fl_Model_113 hthis rfl ?_
                    refine qb_iload hX 88 rfl rfl ?_
                    refine qb_iald hX 89 rfl (kf_Model_43 hthis) (fun x22 => ?_)
                    refine qb_iast hX 90 rfl (kf_Model_42 hthis) ?_
                    refine qb_iinc hX 91 1 (fun x23 => [some (.ref (qx_ad X this)), some (.int p1), some (.int p2), some (.int s8), some (.int x23)]) rfl (by decide) (by decide) rfl (fun _ => rfl) (fun x23 => ?_)
                    exact qb_exit (fun σ h => qj_goto hX 92 rfl (by decide) (qj_wk (ρ' := [some (.ref (qx_ad X this)), some (.int p1), some (.int p2), some (.int s8), some (.int x23)]) (qw_s (qw_s (qw_s (qw_s (qw_s (qw_0)))))) h))
                · intro s20
                  refine qb_iinc hX 93 1 (fun x24 => [some (.ref (qx_ad X this)), some (.int p1), some (.int p2), some (.int x24), none]) rfl (by decide) (by decide) rfl (fun _ => rfl) (fun x24 => ?_)
                  exact qb_exit (fun σ h => qj_goto hX 94 rfl (by decide) (qj_wk (ρ' := [some (.ref (qx_ad X this)), some (.int p1), some (.int p2), some (.int x24), none]) (qw_s (qw_s (qw_s (qw_s (qw_n (qw_0)))))) h))
        · intro s7
          refine qb_aload_n hX 95 rfl rfl ?_
          refine qb_getR hX 96 rfl fl_Model_110 hthis rfl ?_
          refine qb_bipush hX 97 20 rfl (by decide) ?_
          refine qb_aload_n hX 98 rfl rfl ?_
          refine qb_iload_n hX 99 rfl rfl ?_
          refine qb_callI hX 100 rfl cv_Model_179 (jm_Model_endOf (qk_GI hX) this p1 hthis ) (ci := 9) hthis ⟨rfl, rfl, rfl, by decide, by decide⟩ rfl (by exact Nat.le_of_ble_eq_true rfl) (fun x25 => ?_)
          refine qb_imul hX 101 rfl ?_
          refine qb_iald hX 102 rfl (kf_Model_42 hthis) (fun x26 => ?_)
          exact qb_iret hX 103 rfl hR (fun _ h => h)
    ·
      refine qb_iconst hX 12 (-1) rfl (by decide) ?_
      exact qb_iret hX 13 rfl hR (fun _ h => h)
theorem jm_Model_ways {l : Launch} {G : qm_G} (hG : qm_GI G) (this : Nat) (p1 : Int32) (p2 : Int32) (hthis : (qm_kd this).1 = 19) : qm_MI l G jy_Model_ways prog_11_method_70_code 5 (some .int) 5 120 [.ref (G.1 this), .int p1, .int p2] (jf_Model_ways this p1 p2) :=
  qm_metI (by decide +kernel) jd_Model_ways (fun v hv => by simp only [List.mem_cons, List.not_mem_nil, or_false] at hv; rcases hv with rfl | rfl | rfl <;> rfl) (by exact Nat.le_of_ble_eq_true rfl) hG rfl (fun X hl hg hX r0 σ0 hR => by subst hl; subst hg; exact jb_Model_ways hX hR this p1 p2 hthis)
