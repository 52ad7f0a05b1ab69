def jl_Model_readsPart : List qm_I := [(0, .iconst 0, 1, 1), (1, .istore_n 1, 1, 2), (2, .iload_n 1, 1, 3), (3, .bipush 8, 2, 5), (5, .if_icmp .ge 26, 3, 8), (8, .aload_n 0, 1, 9), (9, .iload_n 1, 1, 10), (10, .invokestatic 411, 3, 13), (13, .invokevirtual 448, 3, 16), (16, .ifCond .eq 9, 3, 19), (19, .aload_n 0, 1, 20), (20, .iload_n 1, 1, 21), (21, .invokevirtual 474, 3, 24), (24, .ireturn, 1, 25), (25, .iinc 1 1, 3, 28), (28, .goto (-26), 3, 31), (31, .iconst 0, 1, 32), (32, .istore_n 1, 1, 33), (33, .iload_n 1, 1, 34), (34, .iconst 4, 1, 35), (35, .if_icmp .gt 26, 3, 38), (38, .aload_n 0, 1, 39), (39, .iload_n 1, 1, 40), (40, .invokestatic 465, 3, 43), (43, .invokevirtual 448, 3, 46), (46, .ifCond .eq 9, 3, 49), (49, .aload_n 0, 1, 50), (50, .iload_n 1, 1, 51), (51, .invokevirtual 477, 3, 54), (54, .ireturn, 1, 55), (55, .iinc 1 1, 3, 58), (58, .goto (-25), 3, 61), (61, .aload_n 0, 1, 62), (62, .iconst 1, 1, 63), (63, .aload_n 0, 1, 64), (64, .getfield 355, 3, 67), (67, .invokevirtual 384, 3, 70), (70, .ireturn, 1, 71)]
theorem jd_Model_readsPart : qm_D prog_11_method_99_code jl_Model_readsPart := qm_D_of (by decide +kernel)
noncomputable def jf_Model_readsPart (this : Nat) : qm_M Int32 :=
  mB (α := (Unit ⊕ Int32)) (
    mW (S := Int32) (α := (Unit ⊕ Int32)) (fun s2 =>
      if 8 ≤ s2 then
        mP (Sum.inr (Sum.inl ()))
      else
        mB (mK 6 (jf_Model_settingWord s2)) fun r3 =>
        mB (jf_Model_isWord this r3) fun x4 =>
        if x4 = 0 then
          mB (mP (s2 + 1)) fun x5 =>
          mP (Sum.inl x5)
        else
          mB (jf_Model_readsSetting this s2) fun x6 =>
          mB (mZ x6) fun x7 => mP (Sum.inr (Sum.inr x7))) 0) (Sum.elim (fun s1 =>
    mB (α := (Unit ⊕ Int32)) (
      mW (S := Int32) (α := (Unit ⊕ Int32)) (fun s9 =>
        if 4 < s9 then
          mP (Sum.inr (Sum.inl ()))
        else
          mB (mK 6 (jf_Model_kindWord s9)) fun r10 =>
          mB (jf_Model_isWord this r10) fun x11 =>
          if x11 = 0 then
            mB (mP (s9 + 1)) fun x12 =>
            mP (Sum.inl x12)
          else
            mB (jf_Model_readsBlock this s9) fun x13 =>
            mB (mZ x13) fun x14 => mP (Sum.inr (Sum.inr x14))) 0) (Sum.elim (fun s8 =>
      mB (mGt this 46) fun x15 =>
      mB (jf_Model_fails this 1 x15) fun x16 =>
      mB (mZ x16) fun x17 => mP x17) mP)) mP)
set_option maxRecDepth 20000 in
set_option maxHeartbeats 4000000 in
theorem jb_Model_readsPart {X : qm_X} (hX : qm_ok X qr_Model prog_11_method_99_code 2 8 175 jl_Model_readsPart) {r0 : Int32} {σ0 : qm_Mem} (hR : qm_RI X r0 σ0 .boolean) (this : Nat) (hthis : (qm_kd this).1 = 19) : qm_B X (jf_Model_readsPart this) 0 [some (.ref (qx_ad X this)), none] [] (fun r σ1 => r = r0 ∧ σ1 = σ0) := by
  unfold jf_Model_readsPart
  refine qb_iconst hX 0 0 rfl (by decide) ?_
  refine qb_istore_n hX 1 ([some (.ref (qx_ad X this)), some (.int 0)]) rfl (by decide) rfl ?_
  refine qb_join2 31 (fun s1 => [some (.ref (qx_ad X this)), none]) (fun s1 => []) ?_ ?_
  ·
    refine qb_loopw (0) (fun s2 => [some (.ref (qx_ad X this)), some (.int s2)]) (qw_s (qw_s (qw_0))) (fun s2 => ?_)
    refine qb_iload_n hX 2 rfl rfl ?_
    refine qb_bipush hX 3 8 rfl (by decide) ?_
    refine qb_icge hX 4 31 rfl (by decide) ?_ ?_
    ·
      exact qb_exit (fun σ h => qj_wk (ρ' := [some (.ref (qx_ad X this)), none]) (qw_s (qw_n (qw_0))) h)
    ·
      refine qb_aload_n hX 5 rfl rfl ?_
      refine qb_iload_n hX 6 rfl rfl ?_
      refine qb_calSR hX 7 rfl cv_Model_411 (jm_Model_settingWord (qk_GI hX) s2 ) ⟨rfl, by decide, by decide⟩ rfl (by exact Nat.le_of_ble_eq_true rfl) (fun r3 hr3 => ?_)
      refine qb_callI hX 8 rfl cv_Model_448 (jm_Model_isWord (qk_GI hX) this r3 hthis hr3) (ci := 9) hthis ⟨rfl, rfl, rfl, by decide, by decide⟩ rfl (by exact Nat.le_of_ble_eq_true rfl) (fun x4 => ?_)
      refine qb_ifeq hX 9 25 rfl (by decide) ?_ ?_
      ·
        refine qb_iinc hX 14 1 (fun x5 => [some (.ref (qx_ad X this)), some (.int x5)]) rfl (by decide) (by decide) rfl (fun _ => rfl) (fun x5 => ?_)
        exact qb_exit (fun σ h => qj_goto hX 15 rfl (by decide) (qj_wk (ρ' := [some (.ref (qx_ad X this)), some (.int x5)]) (qw_s (qw_s (qw_0))) h))
      ·
        refine qb_aload_n hX 10 rfl rfl ?_
        refine qb_iload_n hX 11 rfl rfl ?_
        refine qb_callI hX 12 rfl cv_Model_474 (jm_Model_readsSetting (qk_GI hX) this s2 hthis ) (ci := 9) hthis ⟨rfl, rfl, rfl, by decide, by decide⟩ rfl (by exact Nat.le_of_ble_eq_true rfl) (fun x6 => ?_)
        exact qb_zret hX 13 (a := fun x7 => (Sum.inr (Sum.inr x7))) rfl hR (fun _ h => h)
  · intro s1
    refine qb_iconst hX 16 0 rfl (by decide) ?_
    refine qb_istore_n hX 17 ([some (.ref (qx_ad X this)), some (.int 0)]) rfl (by decide) rfl ?_
    refine qb_join2 61 (fun s8 => [some (.ref (qx_ad X this)), none]) (fun s8 => []) ?_ ?_
    ·
      refine qb_loopw (0) (fun s9 => [some (.ref (qx_ad X this)), some (.int s9)]) (qw_s (qw_s (qw_0))) (fun s9 => ?_)
      refine qb_iload_n hX 18 rfl rfl ?_
      refine qb_iconst hX 19 4 rfl (by decide) ?_
      refine qb_icgt hX 20 61 rfl (by decide) ?_ ?_
      ·
        exact qb_exit (fun σ h => qj_wk (ρ' := [some (.ref (qx_ad X this)), none]) (qw_s (qw_n (qw_0))) h)
      ·
        refine qb_aload_n hX 21 rfl rfl ?_
        refine qb_iload_n hX 22 rfl rfl ?_
        refine qb_calSR hX 23 rfl cv_Model_465 (jm_Model_kindWord (qk_GI hX) s9 ) ⟨rfl, by decide, by decide⟩ rfl (by exact Nat.le_of_ble_eq_true rfl) (fun r10 hr10 => ?_)
        refine qb_callI hX 24 rfl cv_Model_448 (jm_Model_isWord (qk_GI hX) this r10 hthis hr10) (ci := 9) hthis ⟨rfl, rfl, rfl, by decide, by decide⟩ rfl (by exact Nat.le_of_ble_eq_true rfl) (fun x11 => ?_)
        refine qb_ifeq hX 25 55 rfl (by decide) ?_ ?_
        ·
          refine qb_iinc hX 30 1 (fun x12 => [some (.ref (qx_ad X this)), some (.int x12)]) rfl (by decide) (by decide) rfl (fun _ => rfl) (fun x12 => ?_)
          exact qb_exit (fun σ h => qj_goto hX 31 rfl (by decide) (qj_wk (ρ' := [some (.ref (qx_ad X this)), some (.int x12)]) (qw_s (qw_s (qw_0))) h))
        ·
          refine qb_aload_n hX 26 rfl rfl ?_
          refine qb_iload_n hX 27 rfl rfl ?_
          refine qb_callI hX 28 rfl cv_Model_477 (jm_Model_readsBlock (qk_GI hX) this s9 hthis ) (ci := 9) hthis ⟨rfl, rfl, rfl, by decide, by decide⟩ rfl (by exact Nat.le_of_ble_eq_true rfl) (fun x13 => ?_)
          exact qb_zret hX 29 (a := fun x14 => (Sum.inr (Sum.inr x14))) rfl hR (fun _ h => h)
    · intro s8
      refine qb_aload_n hX 32 rfl rfl ?_
      refine qb_iconst hX 33 1 rfl (by decide) ?_
      refine qb_aload_n hX 34 rfl rfl ?_
      refine qb_get hX 35 rfl fl_Model_355 hthis rfl (fun x15 => ?_)
      refine qb_callI hX 36 rfl cv_Model_384 (jm_Model_fails (qk_GI hX) this 1 x15 hthis ) (ci := 9) hthis ⟨rfl, rfl, rfl, by decide, by decide⟩ rfl (by exact Nat.le_of_ble_eq_true rfl) (fun x16 => ?_)
      exact qb_zret hX 37 (a := fun x17 => x17) rfl hR (fun _ h => h)
theorem jm_Model_readsPart {l : Launch} {G : qm_G} (hG : qm_GI G) (this : Nat) (hthis : (qm_kd this).1 = 19) : qm_MI l G jy_Model_readsPart prog_11_method_99_code 2 (some .boolean) 8 175 [.ref (G.1 this)] (jf_Model_readsPart this) :=
  qm_metI (by decide +kernel) jd_Model_readsPart (fun v hv => by simp only [List.mem_cons, List.not_mem_nil, or_false] at hv; rcases hv with rfl <;> rfl) (by exact Nat.le_of_ble_eq_true rfl) hG rfl (fun X hl hg hX r0 σ0 hR => by subst hl; subst hg; exact jb_Model_readsPart hX hR this hthis)
def jl_Model_readsAll : List qm_I := [(0, .aload_n 0, 1, 1), (1, .getfield 120, 3, 4), (4, .invokestatic 123, 3, 7), (7, .aload_n 0, 1, 8), (8, .iconst 0, 1, 9), (9, .putfield 355, 3, 12), (12, .aload_n 0, 1, 13), (13, .iconst 0, 1, 14), (14, .putfield 428, 3, 17), (17, .aload_n 0, 1, 18), (18, .iconst 0, 1, 19), (19, .putfield 408, 3, 22), (22, .aload_n 0, 1, 23), (23, .invokevirtual 364, 3, 26), (26, .iconst (-1), 1, 27), (27, .if_icmp .ne 5, 3, 30), (30, .iconst 1, 1, 31), (31, .ireturn, 1, 32), (32, .aload_n 0, 1, 33), (33, .invokevirtual 480, 3, 36), (36, .istore_n 1, 1, 37), (37, .iload_n 1, 1, 38), (38, .ifCond .eq 30, 3, 41), (41, .aload_n 0, 1, 42), (42, .invokevirtual 364, 3, 45), (45, .bipush 59, 2, 47), (47, .if_icmp .ne 21, 3, 50), (50, .aload_n 0, 1, 51), (51, .dup, 1, 52), (52, .getfield 355, 3, 55), (55, .iconst 1, 1, 56), (56, .iadd, 1, 57), (57, .putfield 355, 3, 60), (60, .aload_n 0, 1, 61), (61, .invokevirtual 480, 3, 64), (64, .istore_n 1, 1, 65), (65, .goto (-28), 3, 68), (68, .iload_n 1, 1, 69), (69, .ifCond .eq 27, 3, 72), (72, .aload_n 0, 1, 73), (73, .invokevirtual 364, 3, 76), (76, .iconst (-1), 1, 77), (77, .if_icmp .eq 15, 3, 80), (80, .aload_n 0, 1, 81), (81, .iconst 1, 1, 82), (82, .aload_n 0, 1, 83), (83, .getfield 355, 3, 86), (86, .invokevirtual 384, 3, 89), (89, .ifCond .eq 7, 3, 92), (92, .iconst 1, 1, 93), (93, .goto 4, 3, 96), (96, .iconst 0, 1, 97), (97, .ireturn, 1, 98)]
theorem jd_Model_readsAll : qm_D prog_11_method_100_code jl_Model_readsAll := qm_D_of (by decide +kernel)
noncomputable def jf_Model_readsAll (this : Nat) : qm_M Int32 :=
  mB (jf_Model_begins (qm_rf this 50)) fun _ =>
  mB (mPt this 46 0) fun _ =>
  mB (mPt this 51 0) fun _ =>
  mB (mPt this 52 0) fun _ =>
  mB (jf_Model_nextByte this) fun x1 =>
  if ¬ x1 = (-1) then
    mB (jf_Model_readsPart this) fun x2 =>
    mB (α := Int32) (
      mW (S := Int32) (α := Int32) (fun s4 =>
        if s4 = 0 then
          mP (Sum.inr s4)
        else
          mB (jf_Model_nextByte this) fun x5 =>
          if ¬ x5 = 59 then
            mP (Sum.inr s4)
          else
            mB (mGt this 46) fun x6 =>
            mB (mPt this 46 (x6 + 1)) fun _ =>
            mB (jf_Model_readsPart this) fun x7 =>
            mP (Sum.inl x7)) x2) fun s3 =>
    if s3 = 0 then
      mP 0
    else
      mB (jf_Model_nextByte this) fun x8 =>
      if x8 = (-1) then
        mP 1
      else
        mB (mGt this 46) fun x9 =>
        mB (jf_Model_fails this 1 x9) fun x10 =>
        if x10 = 0 then
          mP 0
        else
          mP 1
  else
    mP 1
set_option maxRecDepth 20000 in
set_option maxHeartbeats 4000000 in
theorem jb_Model_readsAll {X : qm_X} (hX : qm_ok X qr_Model prog_11_method_100_code 2 9 196 jl_Model_readsAll) {r0 : Int32} {σ0 : qm_Mem} (hR : qm_RI X r0 σ0 .boolean) (this : Nat) (hthis : (qm_kd this).1 = 19) : qm_B X (jf_Model_readsAll this) 0 [some (.ref (qx_ad X this)), none] [] (fun r σ1 => r = r0 ∧ σ1 = σ0) := by
  unfold jf_Model_readsAll
  refine qb_aload_n hX 0 rfl rfl ?_
  refine qb_getR hX 1 rfl fl_Model_120 hthis rfl ?_
  refine qb_calSV hX 2 rfl cv_Model_123 (jm_Model_begins (qk_GI hX) (qm_rf this 50) (kf_Model_50 hthis)) ⟨rfl, by decide, by decide⟩ rfl (by exact Nat.le_of_ble_eq_true rfl) ?_
  refine qb_aload_n hX 3 rfl rfl ?_
  refine qb_iconst hX 4 0 rfl (by decide) ?_
  refine qb_put hX 5 rfl fp_Model_355 hthis ?_
  refine qb_aload_n hX 6 rfl rfl ?_
  refine qb_iconst hX 7 0 rfl (by decide) ?_
  refine qb_put hX 8 rfl fp_Model_428 hthis ?_
  refine qb_aload_n hX 9 rfl rfl ?_
  refine qb_iconst hX 10 0 rfl (by decide) ?_
  refine qb_put hX 11 rfl fp_Model_408 hthis ?_
  refine qb_aload_n hX 12 rfl rfl ?_
  refine qb_callI hX 13 rfl cv_Model_364 (jm_Model_nextByte (qk_GI hX) this  hthis ) (ci := 9) hthis ⟨rfl, rfl, rfl, by decide, by decide⟩ rfl (by exact Nat.le_of_ble_eq_true rfl) (fun x1 => ?_)
  refine qb_iconst hX 14 (-1) rfl (by decide) ?_
  refine qb_icne hX 15 32 rfl (by decide) ?_ ?_
  ·
    refine qb_aload_n hX 18 rfl rfl ?_
    refine qb_callI hX 19 rfl cv_Model_480 (jm_Model_readsPart (qk_GI hX) this  hthis ) (ci := 9) hthis ⟨rfl, rfl, rfl, by decide, by decide⟩ rfl (by exact Nat.le_of_ble_eq_true rfl) (fun x2 => ?_)
    refine qb_istore_n hX 20 ([some (.ref (qx_ad X this)), some (.int x2)]) rfl (by decide) rfl ?_
    refine qb_join 68 (fun s3 => [some (.ref (qx_ad X this)), some (.int s3)]) (fun s3 => []) ?_ ?_
    ·
      refine qb_loopw (x2) (fun s4 => [some (.ref (qx_ad X this)), some (.int s4)]) (qw_s (qw_s (qw_0))) (fun s4 => ?_)
      refine qb_iload_n hX 21 rfl rfl ?_
      refine qb_ifeq hX 22 68 rfl (by decide) ?_ ?_
      ·
        exact qb_exit (fun σ h => qj_wk (ρ' := [some (.ref (qx_ad X this)), some (.int s4)]) (qw_s (qw_s (qw_0))) h)
      ·
        refine qb_aload_n hX 23 rfl rfl ?_
        refine qb_callI hX 24 rfl cv_Model_364 (jm_Model_nextByte (qk_GI hX) this  hthis ) (ci := 9) hthis ⟨rfl, rfl, rfl, by decide, by decide⟩ rfl (by exact Nat.le_of_ble_eq_true rfl) (fun x5 => ?_)
        refine qb_bipush hX 25 59 rfl (by decide) ?_
        refine qb_icne hX 26 68 rfl (by decide) ?_ ?_
        ·
          exact qb_exit (fun σ h => qj_wk (ρ' := [some (.ref (qx_ad X this)), some (.int s4)]) (qw_s (qw_s (qw_0))) h)
        ·
          refine qb_aload_n hX 27 rfl rfl ?_
          refine qb_dup hX 28 rfl rfl ?_
          refine qb_get hX 29 rfl fl_Model_355 hthis rfl (fun x6 => ?_)
          refine qb_iconst hX 30 1 rfl (by decide) ?_
          refine qb_iadd hX 31 rfl ?_
          refine qb_put hX 32 rfl fp_Model_355 hthis ?_
          refine qb_aload_n hX 33 rfl rfl ?_
          refine qb_callI hX 34 rfl cv_Model_480 (jm_Model_readsPart (qk_GI hX) this  hthis ) (ci := 9) hthis ⟨rfl, rfl, rfl, by decide, by decide⟩ rfl (by exact Nat.le_of_ble_eq_true rfl) (fun x7 => ?_)
          refine qb_istore_n hX 35 ([some (.ref (qx_ad X this)), some (.int x7)]) rfl (by decide) rfl ?_
          exact qb_exit (fun σ h => qj_goto hX 36 rfl (by decide) (qj_wk (ρ' := [some (.ref (qx_ad X this)), some (.int x7)]) (qw_s (qw_s (qw_0))) h))
    · intro s3
      refine qb_iload_n hX 37 rfl rfl ?_
      refine qb_ifeq hX 38 96 rfl (by decide) ?_ ?_
      ·
        refine qb_iconst hX 51 0 rfl (by decide) ?_
        exact qb_zret1 hX 52 rfl hR (by decide) (fun _ h => h)
      ·
        refine qb_aload_n hX 39 rfl rfl ?_
        refine qb_callI hX 40 rfl cv_Model_364 (jm_Model_nextByte (qk_GI hX) this  hthis ) (ci := 9) hthis ⟨rfl, rfl, rfl, by decide, by decide⟩ rfl (by exact Nat.le_of_ble_eq_true rfl) (fun x8 => ?_)
        refine qb_iconst hX 41 (-1) rfl (by decide) ?_
        refine qb_iceq hX 42 92 rfl (by decide) ?_ ?_
        ·
          refine qb_iconst hX 49 1 rfl (by decide) ?_
          refine qb_goto hX 50 (tgt := 97) rfl (by decide) ?_
          exact qb_zret1 hX 52 rfl hR (by decide) (fun _ h => h)
        ·
          refine qb_aload_n hX 43 rfl rfl ?_
          refine qb_iconst hX 44 1 rfl (by decide) ?_
          refine qb_aload_n hX 45 rfl rfl ?_
          refine qb_get hX 46 rfl fl_Model_355 hthis rfl (fun x9 => ?_)
          refine qb_callI hX 47 rfl cv_Model_384 (jm_Model_fails (qk_GI hX) this 1 x9 hthis ) (ci := 9) hthis ⟨rfl, rfl, rfl, by decide, by decide⟩ rfl (by exact Nat.le_of_ble_eq_true rfl) (fun x10 => ?_)
          refine qb_ifeq hX 48 96 rfl (by decide) ?_ ?_
          ·
            refine qb_iconst hX 51 0 rfl (by decide) ?_
            exact qb_zret1 hX 52 rfl hR (by decide) (fun _ h => h)
          ·
            refine qb_iconst hX 49 1 rfl (by decide) ?_
            refine qb_goto hX 50 (tgt := 97) rfl (by decide) ?_
            exact qb_zret1 hX 52 rfl hR (by decide) (fun _ h => h)
  ·
    refine qb_iconst hX 16 1 rfl (by decide) ?_
    exact qb_zret1 hX 17 rfl hR (by decide) (fun _ h => h)
theorem jm_Model_readsAll {l : Launch} {G : qm_G} (hG : qm_GI G) (this : Nat) (hthis : (qm_kd this).1 = 19) : qm_MI l G jy_Model_readsAll prog_11_method_100_code 2 (some .boolean) 9 196 [.ref (G.1 this)] (jf_Model_readsAll this) :=
  qm_metI (by decide +kernel) jd_Model_readsAll (fun v hv => by simp only [List.mem_cons, List.not_mem_nil, or_false] at hv; rcases hv with rfl <;> rfl) (by exact Nat.le_of_ble_eq_true rfl) hG rfl (fun X hl hg hX r0 σ0 hR => by subst hl; subst hg; exact jb_Model_readsAll hX hR this hthis)
def jl_Model_tell : List qm_I := [(0, .aload_n 0, 1, 1), (1, .invokevirtual 484, 3, 4), (4, .istore_n 1, 1, 5), (5, .aload_n 0, 1, 6), (6, .iconst 0, 1, 7), (7, .putfield 352, 3, 10), (10, .iload_n 1, 1, 11), (11, .ifCond .ne 11, 3, 14), (14, .bipush (-2), 2, 16), (16, .aload_n 0, 1, 17), (17, .getfield 361, 3, 20), (20, .isub, 1, 21), (21, .ireturn, 1, 22), (22, .iconst 0, 1, 23), (23, .istore_n 2, 1, 24), (24, .iload_n 2, 1, 25), (25, .sipush 265, 3, 28), (28, .if_icmp .ge 21, 3, 31), (31, .aload_n 0, 1, 32), (32, .getfield 7, 3, 35), (35, .iload_n 2, 1, 36), (36, .aload_n 0, 1, 37), (37, .getfield 120, 3, 40), (40, .iload_n 2, 1, 41), (41, .iaload, 1, 42), (42, .iastore, 1, 43), (43, .iinc 2 1, 3, 46), (46, .goto (-22), 3, 49), (49, .aload_n 0, 1, 50), (50, .iconst 0, 1, 51), (51, .putfield 487, 3, 54), (54, .aload_n 0, 1, 55), (55, .invokevirtual 245, 3, 58), (58, .aload_n 0, 1, 59), (59, .getfield 148, 3, 62), (62, .ireturn, 1, 63)]
theorem jd_Model_tell : qm_D prog_11_method_101_code jl_Model_tell := qm_D_of (by decide +kernel)
noncomputable def jf_Model_tell (this : Nat) : qm_M Int32 :=
  mB (jf_Model_readsAll this) fun x1 =>
  mB (mPt this 45 0) fun _ =>
  if ¬ x1 = 0 then
    mB (α := Unit) (
      mW (S := Int32) (α := Unit) (fun s3 =>
        if 265 ≤ s3 then
          mP (Sum.inr ())
        else
          mB (mLd (qm_rf this 50) s3) fun x4 =>
          mB (mSt (qm_rf this 0) s3 x4) fun _ =>
          mB (mP (s3 + 1)) fun x5 =>
          mP (Sum.inl x5)) 0) fun s2 =>
    mB (mPt this 2 0) fun _ =>
    mB (jf_Model_lays this) fun _ =>
    mB (mGt this 13) fun x6 =>
    mP x6
  else
    mB (mGt this 47) fun x7 =>
    mP ((-2) - x7)
set_option maxRecDepth 20000 in
set_option maxHeartbeats 4000000 in
theorem jb_Model_tell {X : qm_X} (hX : qm_ok X qr_Model prog_11_method_101_code 3 10 217 jl_Model_tell) {r0 : Int32} {σ0 : qm_Mem} (hR : qm_RI X r0 σ0 .int) (this : Nat) (hthis : (qm_kd this).1 = 19) : qm_B X (jf_Model_tell this) 0 [some (.ref (qx_ad X this)), none, none] [] (fun r σ1 => r = r0 ∧ σ1 = σ0) := by
  unfold jf_Model_tell
  refine qb_aload_n hX 0 rfl rfl ?_
  refine qb_callI hX 1 rfl cv_Model_484 (jm_Model_readsAll (qk_GI hX) this  hthis ) (ci := 9) hthis ⟨rfl, rfl, rfl, by decide, by decide⟩ rfl (by exact Nat.le_of_ble_eq_true rfl) (fun x1 => ?_)
  refine qb_istore_n hX 2 ([some (.ref (qx_ad X this)), some (.int x1), none]) rfl (by decide) rfl ?_
  refine qb_aload_n hX 3 rfl rfl ?_
  refine qb_iconst hX 4 0 rfl (by decide) ?_
  refine qb_put hX 5 rfl fp_Model_352 hthis ?_
  refine qb_iload_n hX 6 rfl rfl ?_
  refine qb_ifne hX 7 22 rfl (by decide) ?_ ?_
  ·
    refine qb_iconst hX 13 0 rfl (by decide) ?_
    refine qb_istore_n hX 14 ([some (.ref (qx_ad X this)), some (.int x1), some (.int 0)]) rfl (by decide) rfl ?_
    refine qb_join 49 (fun s2 => [some (.ref (qx_ad X this)), none, none]) (fun s2 => []) ?_ ?_
    ·
      refine qb_loopw (0) (fun s3 => [some (.ref (qx_ad X this)), none, some (.int s3)]) (qw_s (qw_n (qw_s (qw_0)))) (fun s3 => ?_)
      refine qb_iload_n hX 15 rfl rfl ?_
      refine qb_sipush hX 16 265 rfl (by decide) ?_
      refine qb_icge hX 17 49 rfl (by decide) ?_ ?_
      ·
        exact qb_exit (fun σ h => qj_wk (ρ' := [some (.ref (qx_ad X this)), none, none]) (qw_s (qw_n (qw_n (qw_0)))) h)
      ·
        refine qb_aload_n hX 18 rfl rfl ?_
        refine qb_getR hX 19 rfl fl_Model_7 hthis rfl ?_
        refine qb_iload_n hX 20 rfl rfl ?_
        refine qb_aload_n hX 21 rfl rfl ?_
        refine qb_getR hX 22 rfl fl_Model_120 hthis rfl ?_
        refine qb_iload_n hX 23 rfl rfl ?_
        refine qb_iald hX 24 rfl (kf_Model_50 hthis) (fun x4 => ?_)
        refine qb_iast hX 25 rfl (kf_Model_0 hthis) ?_
        refine qb_iinc hX 26 1 (fun x5 => [some (.ref (qx_ad X this)), none, some (.int x5)]) rfl (by decide) (by decide) rfl (fun _ => rfl) (fun x5 => ?_)
        exact qb_exit (fun σ h => qj_goto hX 27 rfl (by decide) (qj_wk (ρ' := [some (.ref (qx_ad X this)), none, some (.int x5)]) (qw_s (qw_n (qw_s (qw_0)))) h))
    · intro s2
      refine qb_aload_n hX 28 rfl rfl ?_
      refine qb_iconst hX 29 0 rfl (by decide) ?_
      refine qb_put hX 30 rfl fp_Model_487 hthis ?_
      refine qb_aload_n hX 31 rfl rfl ?_
      refine qb_callV hX 32 rfl cv_Model_245 (jm_Model_lays (qk_GI hX) this  hthis ) (ci := 9) hthis ⟨rfl, rfl, rfl, by decide, by decide⟩ rfl (by exact Nat.le_of_ble_eq_true rfl) ?_
      refine qb_aload_n hX 33 rfl rfl ?_
      refine qb_get hX 34 rfl fl_Model_148 hthis rfl (fun x6 => ?_)
      exact qb_iret hX 35 rfl hR (fun _ h => h)
  ·
    refine qb_bipush hX 8 (-2) rfl (by decide) ?_
    refine qb_aload_n hX 9 rfl rfl ?_
    refine qb_get hX 10 rfl fl_Model_361 hthis rfl (fun x7 => ?_)
    refine qb_isub hX 11 rfl ?_
    exact qb_iret hX 12 rfl hR (fun _ h => h)
theorem jm_Model_tell {l : Launch} {G : qm_G} (hG : qm_GI G) (this : Nat) (hthis : (qm_kd this).1 = 19) : qm_MI l G jy_Model_tell prog_11_method_101_code 3 (some .int) 10 217 [.ref (G.1 this)] (jf_Model_tell this) :=
  qm_metI (by decide +kernel) jd_Model_tell (fun v hv => by simp only [List.mem_cons, List.not_mem_nil, or_false] at hv; rcases hv with rfl <;> rfl) (by exact Nat.le_of_ble_eq_true rfl) hG rfl (fun X hl hg hX r0 σ0 hR => by subst hl; subst hg; exact jb_Model_tell hX hR this hthis)
