def jl_Model_highest : List qm_I := [(0, .iload_n 0, 1, 1), (1, .iconst 1, 1, 2), (2, .if_icmp .ne 9, 3, 5), (5, .sipush 200, 3, 8), (8, .goto 25, 3, 11), (11, .iload_n 0, 1, 12), (12, .iconst 2, 1, 13), (13, .if_icmp .ne 8, 3, 16), (16, .bipush 30, 2, 18), (18, .goto 15, 3, 21), (21, .iload_n 0, 1, 22), (22, .iconst 4, 1, 23), (23, .if_icmp .ne 8, 3, 26), (26, .bipush 60, 2, 28), (28, .goto 5, 3, 31), (31, .bipush 9, 2, 33), (33, .ireturn, 1, 34)]
theorem jd_Model_highest : qm_D prog_11_method_89_code jl_Model_highest := qm_D_of (by decide +kernel)
noncomputable def jf_Model_highest (p1 : Int32) : qm_M Int32 :=
  if ¬ p1 = 1 then
    if ¬ p1 = 2 then
      if ¬ p1 = 4 then
        mP 9
      else
        mP 60
    else
      mP 30
  else
    mP 200
set_option maxRecDepth 20000 in
set_option maxHeartbeats 4000000 in
theorem jb_Model_highest {X : qm_X} (hX : qm_ok X qr_Model prog_11_method_89_code 1 0 0 jl_Model_highest) {r0 : Int32} {σ0 : qm_Mem} (hR : qm_RI X r0 σ0 .int) (p1 : Int32)  : qm_B X (jf_Model_highest p1) 0 [some (.int p1)] [] (fun r σ1 => r = r0 ∧ σ1 = σ0) := by
  unfold jf_Model_highest
  refine qb_iload_n hX 0 rfl rfl ?_
  refine qb_iconst hX 1 1 rfl (by decide) ?_
  refine qb_icne hX 2 11 rfl (by decide) ?_ ?_
  ·
    refine qb_iload_n hX 5 rfl rfl ?_
    refine qb_iconst hX 6 2 rfl (by decide) ?_
    refine qb_icne hX 7 21 rfl (by decide) ?_ ?_
    ·
      refine qb_iload_n hX 10 rfl rfl ?_
      refine qb_iconst hX 11 4 rfl (by decide) ?_
      refine qb_icne hX 12 31 rfl (by decide) ?_ ?_
      ·
        refine qb_bipush hX 15 9 rfl (by decide) ?_
        exact qb_iret hX 16 rfl hR (fun _ h => h)
      ·
        refine qb_bipush hX 13 60 rfl (by decide) ?_
        refine qb_goto hX 14 (tgt := 33) rfl (by decide) ?_
        exact qb_iret hX 16 rfl hR (fun _ h => h)
    ·
      refine qb_bipush hX 8 30 rfl (by decide) ?_
      refine qb_goto hX 9 (tgt := 33) rfl (by decide) ?_
      exact qb_iret hX 16 rfl hR (fun _ h => h)
  ·
    refine qb_sipush hX 3 200 rfl (by decide) ?_
    refine qb_goto hX 4 (tgt := 33) rfl (by decide) ?_
    exact qb_iret hX 16 rfl hR (fun _ h => h)
theorem jm_Model_highest {l : Launch} {G : qm_G} (hG : qm_GI G) (p1 : Int32)  : qm_MI l G jy_Model_highest prog_11_method_89_code 1 (some .int) 0 0 [.int p1] (jf_Model_highest p1) :=
  qm_metI (by decide +kernel) jd_Model_highest (fun v hv => by simp only [List.mem_cons, List.not_mem_nil, or_false] at hv; rcases hv with rfl <;> rfl) (by exact Nat.le_of_ble_eq_true rfl) hG rfl (fun X hl hg hX r0 σ0 hR => by subst hl; subst hg; exact jb_Model_highest hX hR p1 )
def jl_Model_readsMany : List qm_I := [(0, .aload_n 0, 1, 1), (1, .iconst 1, 1, 2), (2, .bipush 30, 2, 4), (4, .invokevirtual 415, 3, 7), (7, .ifCond .ne 5, 3, 10), (10, .iconst 0, 1, 11), (11, .ireturn, 1, 12), (12, .aload_n 0, 1, 13), (13, .getfield 428, 3, 16), (16, .aload_n 0, 1, 17), (17, .getfield 390, 3, 20), (20, .iadd, 1, 21), (21, .bipush 90, 2, 23), (23, .if_icmp .le 13, 3, 26), (26, .aload_n 0, 1, 27), (27, .iconst 3, 1, 28), (28, .aload_n 0, 1, 29), (29, .getfield 387, 3, 32), (32, .invokevirtual 384, 3, 35), (35, .ireturn, 1, 36), (36, .aload_n 0, 1, 37), (37, .getfield 120, 3, 40), (40, .iload_n 1, 1, 41), (41, .iconst 1, 1, 42), (42, .iadd, 1, 43), (43, .aload_n 0, 1, 44), (44, .getfield 390, 3, 47), (47, .iastore, 1, 48), (48, .iconst 1, 1, 49), (49, .ireturn, 1, 50)]
theorem jd_Model_readsMany : qm_D prog_11_method_90_code jl_Model_readsMany := qm_D_of (by decide +kernel)
noncomputable def jf_Model_readsMany (this : Nat) (p1 : Int32) : qm_M Int32 :=
  mB (jf_Model_readsNumber this 1 30) fun x1 =>
  if ¬ x1 = 0 then
    mB (mGt this 51) fun x2 =>
    mB (mGt this 48) fun x3 =>
    if (x2 + x3) ≤ 90 then
      mB (mGt this 48) fun x4 =>
      mB (mSt (qm_rf this 50) (p1 + 1) x4) fun _ =>
      mP 1
    else
      mB (mGt this 49) fun x5 =>
      mB (jf_Model_fails this 3 x5) fun x6 =>
      mB (mZ x6) fun x7 => mP x7
  else
    mP 0
set_option maxRecDepth 20000 in
set_option maxHeartbeats 4000000 in
theorem jb_Model_readsMany {X : qm_X} (hX : qm_ok X qr_Model prog_11_method_90_code 2 3 63 jl_Model_readsMany) {r0 : Int32} {σ0 : qm_Mem} (hR : qm_RI X r0 σ0 .boolean) (this : Nat) (p1 : Int32) (hthis : (qm_kd this).1 = 19) : qm_B X (jf_Model_readsMany this p1) 0 [some (.ref (qx_ad X this)), some (.int p1)] [] (fun r σ1 => r = r0 ∧ σ1 = σ0) := by
  unfold jf_Model_readsMany
  refine qb_aload_n hX 0 rfl rfl ?_
  refine qb_iconst hX 1 1 rfl (by decide) ?_
  refine qb_bipush hX 2 30 rfl (by decide) ?_
  refine qb_callI hX 3 rfl cv_Model_415 (jm_Model_readsNumber (qk_GI hX) this 1 30 hthis ) (ci := 9) hthis ⟨rfl, rfl, rfl, by decide, by decide⟩ rfl (by exact Nat.le_of_ble_eq_true rfl) (fun x1 => ?_)
  refine qb_ifne hX 4 12 rfl (by decide) ?_ ?_
  ·
    refine qb_aload_n hX 7 rfl rfl ?_
    refine qb_get hX 8 rfl fl_Model_428 hthis rfl (fun x2 => ?_)
    refine qb_aload_n hX 9 rfl rfl ?_
    refine qb_get hX 10 rfl fl_Model_390 hthis rfl (fun x3 => ?_)
    refine qb_iadd hX 11 rfl ?_
    refine qb_bipush hX 12 90 rfl (by decide) ?_
    refine qb_icle hX 13 36 rfl (by decide) ?_ ?_
    ·
      refine qb_aload_n hX 20 rfl rfl ?_
      refine qb_getR hX 21 rfl fl_Model_120 hthis rfl ?_
      refine qb_iload_n hX 22 rfl rfl ?_
      refine qb_iconst hX 23 1 rfl (by decide) ?_
      refine qb_iadd hX 24 rfl ?_
      refine qb_aload_n hX 25 rfl rfl ?_
      refine qb_get hX 26 rfl fl_Model_390 hthis rfl (fun x4 => ?_)
      refine qb_iast hX 27 rfl (kf_Model_50 hthis) ?_
      refine qb_iconst hX 28 1 rfl (by decide) ?_
      exact qb_zret1 hX 29 rfl hR (by decide) (fun _ h => h)
    ·
      refine qb_aload_n hX 14 rfl rfl ?_
      refine qb_iconst hX 15 3 rfl (by decide) ?_
      refine qb_aload_n hX 16 rfl rfl ?_
      refine qb_get hX 17 rfl fl_Model_387 hthis rfl (fun x5 => ?_)
      refine qb_callI hX 18 rfl cv_Model_384 (jm_Model_fails (qk_GI hX) this 3 x5 hthis ) (ci := 9) hthis ⟨rfl, rfl, rfl, by decide, by decide⟩ rfl (by exact Nat.le_of_ble_eq_true rfl) (fun x6 => ?_)
      exact qb_zret hX 19 (a := fun x7 => x7) rfl hR (fun _ h => h)
  ·
    refine qb_iconst hX 5 0 rfl (by decide) ?_
    exact qb_zret1 hX 6 rfl hR (by decide) (fun _ h => h)
theorem jm_Model_readsMany {l : Launch} {G : qm_G} (hG : qm_GI G) (this : Nat) (p1 : Int32) (hthis : (qm_kd this).1 = 19) : qm_MI l G jy_Model_readsMany prog_11_method_90_code 2 (some .boolean) 3 63 [.ref (G.1 this), .int p1] (jf_Model_readsMany this p1) :=
  qm_metI (by decide +kernel) jd_Model_readsMany (fun v hv => by simp only [List.mem_cons, List.not_mem_nil, or_false] at hv; rcases hv with rfl | rfl <;> rfl) (by exact Nat.le_of_ble_eq_true rfl) hG rfl (fun X hl hg hX r0 σ0 hR => by subst hl; subst hg; exact jb_Model_readsMany hX hR this p1 hthis)
def jl_Model_readsHigh : List qm_I := [(0, .aload_n 0, 1, 1), (1, .iconst 1, 1, 2), (2, .iload_n 2, 1, 3), (3, .invokestatic 431, 3, 6), (6, .invokevirtual 415, 3, 9), (9, .ifCond .ne 5, 3, 12), (12, .iconst 0, 1, 13), (13, .ireturn, 1, 14), (14, .aload_n 0, 1, 15), (15, .getfield 120, 3, 18), (18, .iload_n 1, 1, 19), (19, .iconst 2, 1, 20), (20, .iadd, 1, 21), (21, .aload_n 0, 1, 22), (22, .getfield 390, 3, 25), (25, .iastore, 1, 26), (26, .iconst 1, 1, 27), (27, .ireturn, 1, 28)]
theorem jd_Model_readsHigh : qm_D prog_11_method_91_code jl_Model_readsHigh := qm_D_of (by decide +kernel)
noncomputable def jf_Model_readsHigh (this : Nat) (p1 : Int32) (p2 : Int32) : qm_M Int32 :=
  mB (jf_Model_highest p2) fun x1 =>
  mB (jf_Model_readsNumber this 1 x1) fun x2 =>
  if ¬ x2 = 0 then
    mB (mGt this 48) fun x3 =>
    mB (mSt (qm_rf this 50) (p1 + 2) x3) fun _ =>
    mP 1
  else
    mP 0
set_option maxRecDepth 20000 in
set_option maxHeartbeats 4000000 in
theorem jb_Model_readsHigh {X : qm_X} (hX : qm_ok X qr_Model prog_11_method_91_code 3 3 63 jl_Model_readsHigh) {r0 : Int32} {σ0 : qm_Mem} (hR : qm_RI X r0 σ0 .boolean) (this : Nat) (p1 : Int32) (p2 : Int32) (hthis : (qm_kd this).1 = 19) : qm_B X (jf_Model_readsHigh this p1 p2) 0 [some (.ref (qx_ad X this)), some (.int p1), some (.int p2)] [] (fun r σ1 => r = r0 ∧ σ1 = σ0) := by
  unfold jf_Model_readsHigh
  refine qb_aload_n hX 0 rfl rfl ?_
  refine qb_iconst hX 1 1 rfl (by decide) ?_
  refine qb_iload_n hX 2 rfl rfl ?_
  refine qb_calSI hX 3 rfl cv_Model_431 (jm_Model_highest (qk_GI hX) p2 ) ⟨rfl, by decide, by decide⟩ rfl (by exact Nat.le_of_ble_eq_true rfl) (fun x1 => ?_)
  refine qb_callI hX 4 rfl cv_Model_415 (jm_Model_readsNumber (qk_GI hX) this 1 x1 hthis ) (ci := 9) hthis ⟨rfl, rfl, rfl, by decide, by decide⟩ rfl (by exact Nat.le_of_ble_eq_true rfl) (fun x2 => ?_)
  refine qb_ifne hX 5 14 rfl (by decide) ?_ ?_
  ·
    refine qb_aload_n hX 8 rfl rfl ?_
    refine qb_getR hX 9 rfl fl_Model_120 hthis rfl ?_
    refine qb_iload_n hX 10 rfl rfl ?_
    refine qb_iconst hX 11 2 rfl (by decide) ?_
    refine qb_iadd hX 12 rfl ?_
    refine qb_aload_n hX 13 rfl rfl ?_
    refine qb_get hX 14 rfl fl_Model_390 hthis rfl (fun x3 => ?_)
    refine qb_iast hX 15 rfl (kf_Model_50 hthis) ?_
    refine qb_iconst hX 16 1 rfl (by decide) ?_
    exact qb_zret1 hX 17 rfl hR (by decide) (fun _ h => h)
  ·
    refine qb_iconst hX 6 0 rfl (by decide) ?_
    exact qb_zret1 hX 7 rfl hR (by decide) (fun _ h => h)
theorem jm_Model_readsHigh {l : Launch} {G : qm_G} (hG : qm_GI G) (this : Nat) (p1 : Int32) (p2 : Int32) (hthis : (qm_kd this).1 = 19) : qm_MI l G jy_Model_readsHigh prog_11_method_91_code 3 (some .boolean) 3 63 [.ref (G.1 this), .int p1, .int p2] (jf_Model_readsHigh this p1 p2) :=
  qm_metI (by decide +kernel) jd_Model_readsHigh (fun v hv => by simp only [List.mem_cons, List.not_mem_nil, or_false] at hv; rcases hv with rfl | rfl | rfl <;> rfl) (by exact Nat.le_of_ble_eq_true rfl) hG rfl (fun X hl hg hX r0 σ0 hR => by subst hl; subst hg; exact jb_Model_readsHigh hX hR this p1 p2 hthis)
def jl_Model_readsTop : List qm_I := [(0, .aload_n 0, 1, 1), (1, .iconst 0, 1, 2), (2, .bipush 9, 2, 4), (4, .invokevirtual 415, 3, 7), (7, .ifCond .ne 5, 3, 10), (10, .iconst 0, 1, 11), (11, .ireturn, 1, 12), (12, .aload_n 0, 1, 13), (13, .getfield 120, 3, 16), (16, .iload_n 1, 1, 17), (17, .iconst 3, 1, 18), (18, .iadd, 1, 19), (19, .aload_n 0, 1, 20), (20, .getfield 390, 3, 23), (23, .iastore, 1, 24), (24, .iconst 1, 1, 25), (25, .ireturn, 1, 26)]
theorem jd_Model_readsTop : qm_D prog_11_method_92_code jl_Model_readsTop := qm_D_of (by decide +kernel)
noncomputable def jf_Model_readsTop (this : Nat) (p1 : Int32) : qm_M Int32 :=
  mB (jf_Model_readsNumber this 0 9) fun x1 =>
  if ¬ x1 = 0 then
    mB (mGt this 48) fun x2 =>
    mB (mSt (qm_rf this 50) (p1 + 3) x2) fun _ =>
    mP 1
  else
    mP 0
set_option maxRecDepth 20000 in
set_option maxHeartbeats 4000000 in
theorem jb_Model_readsTop {X : qm_X} (hX : qm_ok X qr_Model prog_11_method_92_code 2 3 63 jl_Model_readsTop) {r0 : Int32} {σ0 : qm_Mem} (hR : qm_RI X r0 σ0 .boolean) (this : Nat) (p1 : Int32) (hthis : (qm_kd this).1 = 19) : qm_B X (jf_Model_readsTop this p1) 0 [some (.ref (qx_ad X this)), some (.int p1)] [] (fun r σ1 => r = r0 ∧ σ1 = σ0) := by
  unfold jf_Model_readsTop
  refine qb_aload_n hX 0 rfl rfl ?_
  refine qb_iconst hX 1 0 rfl (by decide) ?_
  refine qb_bipush hX 2 9 rfl (by decide) ?_
  refine qb_callI hX 3 rfl cv_Model_415 (jm_Model_readsNumber (qk_GI hX) this 0 9 hthis ) (ci := 9) hthis ⟨rfl, rfl, rfl, by decide, by decide⟩ rfl (by exact Nat.le_of_ble_eq_true rfl) (fun x1 => ?_)
  refine qb_ifne hX 4 12 rfl (by decide) ?_ ?_
  ·
    refine qb_aload_n hX 7 rfl rfl ?_
    refine qb_getR hX 8 rfl fl_Model_120 hthis rfl ?_
    refine qb_iload_n hX 9 rfl rfl ?_
    refine qb_iconst hX 10 3 rfl (by decide) ?_
    refine qb_iadd hX 11 rfl ?_
    refine qb_aload_n hX 12 rfl rfl ?_
    refine qb_get hX 13 rfl fl_Model_390 hthis rfl (fun x2 => ?_)
    refine qb_iast hX 14 rfl (kf_Model_50 hthis) ?_
    refine qb_iconst hX 15 1 rfl (by decide) ?_
    exact qb_zret1 hX 16 rfl hR (by decide) (fun _ h => h)
  ·
    refine qb_iconst hX 5 0 rfl (by decide) ?_
    exact qb_zret1 hX 6 rfl hR (by decide) (fun _ h => h)
theorem jm_Model_readsTop {l : Launch} {G : qm_G} (hG : qm_GI G) (this : Nat) (p1 : Int32) (hthis : (qm_kd this).1 = 19) : qm_MI l G jy_Model_readsTop prog_11_method_92_code 2 (some .boolean) 3 63 [.ref (G.1 this), .int p1] (jf_Model_readsTop this p1) :=
  qm_metI (by decide +kernel) jd_Model_readsTop (fun v hv => by simp only [List.mem_cons, List.not_mem_nil, or_false] at hv; rcases hv with rfl | rfl <;> rfl) (by exact Nat.le_of_ble_eq_true rfl) hG rfl (fun X hl hg hX r0 σ0 hR => by subst hl; subst hg; exact jb_Model_readsTop hX hR this p1 hthis)
def jl_Model_readsSizes : List qm_I := [(0, .aload_n 0, 1, 1), (1, .getfield 120, 3, 4), (4, .iload_n 1, 1, 5), (5, .iconst 1, 1, 6), (6, .iadd, 1, 7), (7, .iload_n 2, 1, 8), (8, .iconst 4, 1, 9), (9, .if_icmp .ne 7, 3, 12), (12, .iconst 0, 1, 13), (13, .goto 4, 3, 16), (16, .iconst 1, 1, 17), (17, .iastore, 1, 18), (18, .iload_n 2, 1, 19), (19, .ifCond .ne 13, 3, 22), (22, .aload_n 0, 1, 23), (23, .iload_n 1, 1, 24), (24, .invokevirtual 434, 3, 27), (27, .ifCond .ne 5, 3, 30), (30, .iconst 0, 1, 31), (31, .ireturn, 1, 32), (32, .iload_n 2, 1, 33), (33, .iconst 3, 1, 34), (34, .if_icmp .ne 21, 3, 37), (37, .aload_n 0, 1, 38), (38, .iload_n 1, 1, 39), (39, .invokevirtual 437, 3, 42), (42, .ifCond .eq 11, 3, 45), (45, .aload_n 0, 1, 46), (46, .iload_n 1, 1, 47), (47, .invokevirtual 434, 3, 50), (50, .ifCond .ne 5, 3, 53), (53, .iconst 0, 1, 54), (54, .ireturn, 1, 55), (55, .aload_n 0, 1, 56), (56, .iload_n 1, 1, 57), (57, .iload_n 2, 1, 58), (58, .invokevirtual 440, 3, 61), (61, .ireturn, 1, 62)]
theorem jd_Model_readsSizes : qm_D prog_11_method_93_code jl_Model_readsSizes := qm_D_of (by decide +kernel)
noncomputable def jf_Model_readsSizes (this : Nat) (p1 : Int32) (p2 : Int32) : qm_M Int32 :=
  mB (α := Int32) (
    if ¬ p2 = 4 then
      mP 1
    else
      mP 0) fun s1 =>
  mB (mSt (qm_rf this 50) (p1 + 1) s1) fun _ =>
  mB (α := (Unit ⊕ Int32)) (
    if ¬ p2 = 0 then
      mP (Sum.inl ())
    else
      mB (jf_Model_readsMany this p1) fun x3 =>
      if ¬ x3 = 0 then
        mP (Sum.inl ())
      else
        mP (Sum.inr 0)) (Sum.elim (fun s2 =>
    mB (α := (Unit ⊕ Int32)) (
      if ¬ p2 = 3 then
        mP (Sum.inl ())
      else
        mB (jf_Model_readsTop this p1) fun x5 =>
        if x5 = 0 then
          mP (Sum.inr 0)
        else
          mB (jf_Model_readsMany this p1) fun x6 =>
          if ¬ x6 = 0 then
            mP (Sum.inl ())
          else
            mP (Sum.inr 0)) (Sum.elim (fun s4 =>
      mB (jf_Model_readsHigh this p1 p2) fun x7 =>
      mB (mZ x7) fun x8 => mP x8) mP)) mP)
set_option maxRecDepth 20000 in
set_option maxHeartbeats 4000000 in
theorem jb_Model_readsSizes {X : qm_X} (hX : qm_ok X qr_Model prog_11_method_93_code 3 4 85 jl_Model_readsSizes) {r0 : Int32} {σ0 : qm_Mem} (hR : qm_RI X r0 σ0 .boolean) (this : Nat) (p1 : Int32) (p2 : Int32) (hthis : (qm_kd this).1 = 19) : qm_B X (jf_Model_readsSizes this p1 p2) 0 [some (.ref (qx_ad X this)), some (.int p1), some (.int p2)] [] (fun r σ1 => r = r0 ∧ σ1 = σ0) := by
  unfold jf_Model_readsSizes
  refine qb_aload_n hX 0 rfl rfl ?_
  refine qb_getR hX 1 rfl fl_Model_120 hthis rfl ?_
  refine qb_iload_n hX 2 rfl rfl ?_
  refine qb_iconst hX 3 1 rfl (by decide) ?_
  refine qb_iadd hX 4 rfl ?_
  refine qb_iload_n hX 5 rfl rfl ?_
  refine qb_iconst hX 6 4 rfl (by decide) ?_
  refine qb_join 17 (fun s1 => [some (.ref (qx_ad X this)), some (.int p1), some (.int p2)]) (fun s1 => [.int s1, .int (p1 + 1), .ref (qx_ad X (qm_rf this 50))]) ?_ ?_
  ·
    refine qb_icne hX 7 16 rfl (by decide) ?_ ?_
    ·
      refine qb_iconst hX 10 1 rfl (by decide) ?_
      exact qb_exit (fun σ h => qj_wk (ρ' := [some (.ref (qx_ad X this)), some (.int p1), some (.int p2)]) (qw_s (qw_s (qw_s (qw_0)))) h)
    ·
      refine qb_iconst hX 8 0 rfl (by decide) ?_
      exact qb_exit (fun σ h => qj_goto hX 9 rfl (by decide) (qj_wk (ρ' := [some (.ref (qx_ad X this)), some (.int p1), some (.int p2)]) (qw_s (qw_s (qw_s (qw_0)))) h))
  · intro s1
    refine qb_iast hX 11 rfl (kf_Model_50 hthis) ?_
    refine qb_iload_n hX 12 rfl rfl ?_
    refine qb_join2 32 (fun s2 => [some (.ref (qx_ad X this)), some (.int p1), some (.int p2)]) (fun s2 => []) ?_ ?_
    ·
      refine qb_ifne hX 13 32 rfl (by decide) ?_ ?_
      ·
        exact qb_exit (fun σ h => qj_wk (ρ' := [some (.ref (qx_ad X this)), some (.int p1), some (.int p2)]) (qw_s (qw_s (qw_s (qw_0)))) h)
      ·
        refine qb_aload_n hX 14 rfl rfl ?_
        refine qb_iload_n hX 15 rfl rfl ?_
        refine qb_callI hX 16 rfl cv_Model_434 (jm_Model_readsMany (qk_GI hX) this p1 hthis ) (ci := 9) hthis ⟨rfl, rfl, rfl, by decide, by decide⟩ rfl (by exact Nat.le_of_ble_eq_true rfl) (fun x3 => ?_)
        refine qb_ifne hX 17 32 rfl (by decide) ?_ ?_
        ·
          exact qb_exit (fun σ h => qj_wk (ρ' := [some (.ref (qx_ad X this)), some (.int p1), some (.int p2)]) (qw_s (qw_s (qw_s (qw_0)))) h)
        ·
          refine qb_iconst hX 18 0 rfl (by decide) ?_
          exact qb_zret1 hX 19 rfl hR (by decide) (fun _ h => h)
    · intro s2
      refine qb_iload_n hX 20 rfl rfl ?_
      refine qb_iconst hX 21 3 rfl (by decide) ?_
      refine qb_join2 55 (fun s4 => [some (.ref (qx_ad X this)), some (.int p1), some (.int p2)]) (fun s4 => []) ?_ ?_
      ·
        refine qb_icne hX 22 55 rfl (by decide) ?_ ?_
        ·
          exact qb_exit (fun σ h => qj_wk (ρ' := [some (.ref (qx_ad X this)), some (.int p1), some (.int p2)]) (qw_s (qw_s (qw_s (qw_0)))) h)
        ·
          refine qb_aload_n hX 23 rfl rfl ?_
          refine qb_iload_n hX 24 rfl rfl ?_
          refine qb_callI hX 25 rfl cv_Model_437 (jm_Model_readsTop (qk_GI hX) this p1 hthis ) (ci := 9) hthis ⟨rfl, rfl, rfl, by decide, by decide⟩ rfl (by exact Nat.le_of_ble_eq_true rfl) (fun x5 => ?_)
          refine qb_ifeq hX 26 53 rfl (by decide) ?_ ?_
          ·
            refine qb_iconst hX 31 0 rfl (by decide) ?_
            exact qb_zret1 hX 32 rfl hR (by decide) (fun _ h => h)
          ·
            refine qb_aload_n hX 27 rfl rfl ?_
            refine qb_iload_n hX 28 rfl rfl ?_
            refine qb_callI hX 29 rfl cv_Model_434 (jm_Model_readsMany (qk_GI hX) this p1 hthis ) (ci := 9) hthis ⟨rfl, rfl, rfl, by decide, by decide⟩ rfl (by exact Nat.le_of_ble_eq_true rfl) (fun x6 => ?_)
            refine qb_ifne hX 30 55 rfl (by decide) ?_ ?_
            ·
              exact qb_exit (fun σ h => qj_wk (ρ' := [some (.ref (qx_ad X this)), some (.int p1), some (.int p2)]) (qw_s (qw_s (qw_s (qw_0)))) h)
            ·
              refine qb_iconst hX 31 0 rfl (by decide) ?_
              exact qb_zret1 hX 32 rfl hR (by decide) (fun _ h => h)
      · intro s4
        refine qb_aload_n hX 33 rfl rfl ?_
        refine qb_iload_n hX 34 rfl rfl ?_
        refine qb_iload_n hX 35 rfl rfl ?_
        refine qb_callI hX 36 rfl cv_Model_440 (jm_Model_readsHigh (qk_GI hX) this p1 p2 hthis ) (ci := 9) hthis ⟨rfl, rfl, rfl, by decide, by decide⟩ rfl (by exact Nat.le_of_ble_eq_true rfl) (fun x7 => ?_)
        exact qb_zret hX 37 (a := fun x8 => x8) rfl hR (fun _ h => h)
theorem jm_Model_readsSizes {l : Launch} {G : qm_G} (hG : qm_GI G) (this : Nat) (p1 : Int32) (p2 : Int32) (hthis : (qm_kd this).1 = 19) : qm_MI l G jy_Model_readsSizes prog_11_method_93_code 3 (some .boolean) 4 85 [.ref (G.1 this), .int p1, .int p2] (jf_Model_readsSizes this p1 p2) :=
  qm_metI (by decide +kernel) jd_Model_readsSizes (fun v hv => by simp only [List.mem_cons, List.not_mem_nil, or_false] at hv; rcases hv with rfl | rfl | rfl <;> rfl) (by exact Nat.le_of_ble_eq_true rfl) hG rfl (fun X hl hg hX r0 σ0 hR => by subst hl; subst hg; exact jb_Model_readsSizes hX hR this p1 p2 hthis)
def jl_Model_readsMark : List qm_I := [(0, .aload_n 0, 1, 1), (1, .getfield 120, 3, 4), (4, .iload_n 1, 1, 5), (5, .bipush 7, 2, 7), (7, .iadd, 1, 8), (8, .iaload, 1, 9), (9, .iconst 4, 1, 10), (10, .if_icmp .ne 13, 3, 13), (13, .aload_n 0, 1, 14), (14, .iconst 3, 1, 15), (15, .aload_n 0, 1, 16), (16, .getfield 355, 3, 19), (19, .invokevirtual 384, 3, 22), (22, .ireturn, 1, 23), (23, .aload_n 0, 1, 24), (24, .dup, 1, 25), (25, .getfield 355, 3, 28), (28, .iconst 4, 1, 29), (29, .iadd, 1, 30), (30, .putfield 355, 3, 33), (33, .aload_n 0, 1, 34), (34, .iconst 1, 1, 35), (35, .aload_n 0, 1, 36), (36, .getfield 120, 3, 39), (39, .iload_n 1, 1, 40), (40, .iconst 1, 1, 41), (41, .iadd, 1, 42), (42, .iaload, 1, 43), (43, .invokevirtual 415, 3, 46), (46, .ifCond .ne 5, 3, 49), (49, .iconst 0, 1, 50), (50, .ireturn, 1, 51), (51, .aload_n 0, 1, 52), (52, .getfield 120, 3, 55), (55, .iload_n 1, 1, 56), (56, .bipush 7, 2, 58), (58, .iadd, 1, 59), (59, .iaload, 1, 60), (60, .istore_n 2, 1, 61), (61, .iconst 0, 1, 62), (62, .istore_n 3, 1, 63), (63, .iload_n 3, 1, 64), (64, .iload_n 2, 1, 65), (65, .if_icmp .ge 39, 3, 68), (68, .aload_n 0, 1, 69), (69, .getfield 120, 3, 72), (72, .iload_n 1, 1, 73), (73, .bipush 8, 2, 75), (75, .iadd, 1, 76), (76, .iconst 2, 1, 77), (77, .iload_n 3, 1, 78), (78, .imul, 1, 79), (79, .iadd, 1, 80), (80, .iaload, 1, 81), (81, .aload_n 0, 1, 82), (82, .getfield 390, 3, 85), (85, .if_icmp .ne 13, 3, 88), (88, .aload_n 0, 1, 89), (89, .iconst 2, 1, 90), (90, .aload_n 0, 1, 91), (91, .getfield 387, 3, 94), (94, .invokevirtual 384, 3, 97), (97, .ireturn, 1, 98), (98, .iinc 3 1, 3, 101), (101, .goto (-38), 3, 104), (104, .aload_n 0, 1, 105), (105, .getfield 120, 3, 108), (108, .iload_n 1, 1, 109), (109, .bipush 8, 2, 111), (111, .iadd, 1, 112), (112, .iconst 2, 1, 113), (113, .iload_n 2, 1, 114), (114, .imul, 1, 115), (115, .iadd, 1, 116), (116, .aload_n 0, 1, 117), (117, .getfield 390, 3, 120), (120, .iastore, 1, 121), (121, .aload_n 0, 1, 122), (122, .iconst 1, 1, 123), (123, .bipush 20, 2, 125), (125, .invokevirtual 415, 3, 128), (128, .ifCond .ne 5, 3, 131), (131, .iconst 0, 1, 132), (132, .ireturn, 1, 133), (133, .aload_n 0, 1, 134), (134, .getfield 120, 3, 137), (137, .iload_n 1, 1, 138), (138, .bipush 8, 2, 140), (140, .iadd, 1, 141), (141, .iconst 2, 1, 142), (142, .iload_n 2, 1, 143), (143, .imul, 1, 144), (144, .iadd, 1, 145), (145, .iconst 1, 1, 146), (146, .iadd, 1, 147), (147, .aload_n 0, 1, 148), (148, .getfield 390, 3, 151), (151, .iastore, 1, 152), (152, .aload_n 0, 1, 153), (153, .getfield 120, 3, 156), (156, .iload_n 1, 1, 157), (157, .bipush 7, 2, 159), (159, .iadd, 1, 160), (160, .dup2, 1, 161), (161, .iaload, 1, 162), (162, .iconst 1, 1, 163), (163, .iadd, 1, 164), (164, .iastore, 1, 165), (165, .iconst 1, 1, 166), (166, .ireturn, 1, 167)]
theorem jd_Model_readsMark : qm_D prog_11_method_94_code jl_Model_readsMark := qm_D_of (by decide +kernel)
noncomputable def jf_Model_readsMark (this : Nat) (p1 : Int32) : qm_M Int32 :=
  mB (mLd (qm_rf this 50) (p1 + 7)) fun x1 =>
  if ¬ x1 = 4 then
    mB (mGt this 46) fun x2 =>
    mB (mPt this 46 (x2 + 4)) fun _ =>
    mB (mLd (qm_rf this 50) (p1 + 1)) fun x3 =>
    mB (jf_Model_readsNumber this 1 x3) fun x4 =>
    if ¬ x4 = 0 then
      mB (mLd (qm_rf this 50) (p1 + 7)) fun x5 =>
      mB (α := (Unit ⊕ Int32)) (
        mW (S := Int32) (α := (Unit ⊕ Int32)) (fun s7 =>
          if x5 ≤ s7 then
            mP (Sum.inr (Sum.inl ()))
          else
            mB (mLd (qm_rf this 50) ((p1 + 8) + (2 * s7))) fun x8 =>
            mB (mGt this 48) fun x9 =>
            if ¬ x8 = x9 then
              mB (mP (s7 + 1)) fun x10 =>
              mP (Sum.inl x10)
            else
              mB (mGt this 49) fun x11 =>
              mB (jf_Model_fails this 2 x11) fun x12 =>
              mB (mZ x12) fun x13 => mP (Sum.inr (Sum.inr x13))) 0) (Sum.elim (fun s6 =>
        mB (mGt this 48) fun x14 =>
        mB (mSt (qm_rf this 50) ((p1 + 8) + (2 * x5)) x14) fun _ =>
        mB (jf_Model_readsNumber this 1 20) fun x15 =>
        if ¬ x15 = 0 then
          mB (mGt this 48) fun x16 =>
          mB (mSt (qm_rf this 50) (((p1 + 8) + (2 * x5)) + 1) x16) fun _ =>
          mB (mLd (qm_rf this 50) (p1 + 7)) fun x17 =>
          mB (mSt (qm_rf this 50) (p1 + 7) (x17 + 1)) fun _ =>
          mP 1
        else
          mP 0) mP)
    else
      mP 0
  else
    mB (mGt this 46) fun x18 =>
    mB (jf_Model_fails this 3 x18) fun x19 =>
    mB (mZ x19) fun x20 => mP x20
set_option maxRecDepth 20000 in
set_option maxHeartbeats 4000000 in
theorem jb_Model_readsMark {X : qm_X} (hX : qm_ok X qr_Model prog_11_method_94_code 4 3 63 jl_Model_readsMark) {r0 : Int32} {σ0 : qm_Mem} (hR : qm_RI X r0 σ0 .boolean) (this : Nat) (p1 : Int32) (hthis : (qm_kd this).1 = 19) : qm_B X (jf_Model_readsMark this p1) 0 [some (.ref (qx_ad X this)), some (.int p1), none, none] [] (fun r σ1 => r = r0 ∧ σ1 = σ0) := by
  unfold jf_Model_readsMark
  refine qb_aload_n hX 0 rfl rfl ?_
  refine qb_getR hX 1 rfl fl_Model_120 hthis rfl ?_
  refine qb_iload_n hX 2 rfl rfl ?_
  refine qb_bipush hX 3 7 rfl (by decide) ?_
  refine qb_iadd hX 4 rfl ?_
  refine qb_iald hX 5 rfl (kf_Model_50 hthis) (fun x1 => ?_)
  refine qb_iconst hX 6 4 rfl (by decide) ?_
  refine qb_icne hX 7 23 rfl (by decide) ?_ ?_
  ·
    refine qb_aload_n hX 14 rfl rfl ?_
    refine qb_dup hX 15 rfl rfl ?_
    refine qb_get hX 16 rfl fl_Model_355 hthis rfl (fun x2 => ?_)
    refine qb_iconst hX 17 4 rfl (by decide) ?_
    refine qb_iadd hX 18 rfl ?_
    refine qb_put hX 19 rfl fp_Model_355 hthis ?_
    refine qb_aload_n hX 20 rfl rfl ?_
    refine qb_iconst hX 21 1 rfl (by decide) ?_
    refine qb_aload_n hX 22 rfl rfl ?_
    refine qb_getR hX 23 rfl fl_Model_120 hthis rfl ?_
    refine qb_iload_n hX 24 rfl rfl ?_
    refine qb_iconst hX 25 1 rfl (by decide) ?_
    refine qb_iadd hX 26 rfl ?_
    refine qb_iald hX 27 rfl (kf_Model_50 hthis) (fun x3 => ?_)
    refine qb_callI hX 28 rfl cv_Model_415 (jm_Model_readsNumber (qk_GI hX) this 1 x3 hthis ) (ci := 9) hthis ⟨rfl, rfl, rfl, by decide, by decide⟩ rfl (by exact Nat.le_of_ble_eq_true rfl) (fun x4 => ?_)
    refine qb_ifne hX 29 51 rfl (by decide) ?_ ?_
    ·
      refine qb_aload_n hX 32 rfl rfl ?_
      refine qb_getR hX 33 rfl fl_Model_120 hthis rfl ?_
      refine qb_iload_n hX 34 rfl rfl ?_
      refine qb_bipush hX 35 7 rfl (by decide) ?_
      refine qb_iadd hX 36 rfl ?_
      refine qb_iald hX 37 rfl (kf_Model_50 hthis) (fun x5 => ?_)
      refine qb_istore_n hX 38 ([some (.ref (qx_ad X this)), some (.int p1), some (.int x5), none]) rfl (by decide) rfl ?_
      refine qb_iconst hX 39 0 rfl (by decide) ?_
      refine qb_istore_n hX 40 ([some (.ref (qx_ad X this)), some (.int p1), some (.int x5), some (.int 0)]) rfl (by decide) rfl ?_
      refine qb_join2 104 (fun s6 => [some (.ref (qx_ad X this)), some (.int p1), some (.int x5), none]) (fun s6 => []) ?_ ?_
      ·
        refine qb_loopw (0) (fun s7 => [some (.ref (qx_ad X this)), some (.int p1), some (.int x5), some (.int s7)]) (qw_s (qw_s (qw_s (qw_s (qw_0))))) (fun s7 => ?_)
        refine qb_iload_n hX 41 rfl rfl ?_
        refine qb_iload_n hX 42 rfl rfl ?_
        refine qb_icge hX 43 104 rfl (by decide) ?_ ?_
        ·
          exact qb_exit (fun σ h => qj_wk (ρ' := [some (.ref (qx_ad X this)), some (.int p1), some (.int x5), none]) (qw_s (qw_s (qw_s (qw_n (qw_0))))) h)
        ·
          refine qb_aload_n hX 44 rfl rfl ?_
          refine qb_getR hX 45 rfl fl_Model_120 hthis rfl ?_
          refine qb_iload_n hX 46 rfl rfl ?_
          refine qb_bipush hX 47 8 rfl (by decide) ?_
          refine qb_iadd hX 48 rfl ?_
          refine qb_iconst hX 49 2 rfl (by decide) ?_
          refine qb_iload_n hX 50 rfl rfl ?_
          refine qb_imul hX 51 rfl ?_
          refine qb_iadd hX 52 rfl ?_
          refine qb_iald hX 53 rfl (kf_Model_50 hthis) (fun x8 => ?_)
          refine qb_aload_n hX 54 rfl rfl ?_
          refine qb_get hX 55 rfl fl_Model_390 hthis rfl (fun x9 => ?_)
          refine qb_icne hX 56 98 rfl (by decide) ?_ ?_
          ·
            refine qb_iinc hX 63 1 (fun x10 => [some (.ref (qx_ad X this)), some (.int p1), some (.int x5), some (.int x10)]) rfl (by decide) (by decide) rfl (fun _ => rfl) (fun x10 => ?_)
            exact qb_exit (fun σ h => qj_goto hX 64 rfl (by decide) (qj_wk (ρ' := [some (.ref (qx_ad X this)), some (.int p1), some (.int x5), some (.int x10)]) (qw_s (qw_s (qw_s (qw_s (qw_0))))) h))
          ·
            refine qb_aload_n hX 57 rfl rfl ?_
            refine qb_iconst hX 58 2 rfl (by decide) ?_
            refine qb_aload_n hX 59 rfl rfl ?_
            refine qb_get hX 60 rfl fl_Model_387 hthis rfl (fun x11 => ?_)
            refine qb_callI hX 61 rfl cv_Model_384 (jm_Model_fails (qk_GI hX) this 2 x11 hthis ) (ci := 9) hthis ⟨rfl, rfl, rfl, by decide, by decide⟩ rfl (by exact Nat.le_of_ble_eq_true rfl) (fun x12 => ?_)
            exact qb_zret hX 62 (a := fun x13 => (Sum.inr (Sum.inr x13))) rfl hR (fun _ h => h)
      · intro s6
        refine qb_aload_n hX 65 rfl rfl ?_
        refine qb_getR hX 66 rfl fl_Model_120 hthis rfl ?_
        refine qb_iload_n hX 67 rfl rfl ?_
        refine qb_bipush hX 68 8 rfl (by decide) ?_
        refine qb_iadd hX 69 rfl ?_
        refine qb_iconst hX 70 2 rfl (by decide) ?_
        refine qb_iload_n hX 71 rfl rfl ?_
        refine qb_imul hX 72 rfl ?_
        refine qb_iadd hX 73 rfl ?_
        refine qb_aload_n hX 74 rfl rfl ?_
        refine qb_get hX 75 rfl fl_Model_390 hthis rfl (fun x14 => ?_)
        refine qb_iast hX 76 rfl (kf_Model_50 hthis) ?_
        refine qb_aload_n hX 77 rfl rfl ?_
        refine qb_iconst hX 78 1 rfl (by decide) ?_
        refine qb_bipush hX 79 20 rfl (by decide) ?_
        refine qb_callI hX 80 rfl cv_Model_415 (jm_Model_readsNumber (qk_GI hX) this 1 20 hthis ) (ci := 9) hthis ⟨rfl, rfl, rfl, by decide, by decide⟩ rfl (by exact Nat.le_of_ble_eq_true rfl) (fun x15 => ?_)
        refine qb_ifne hX 81 133 rfl (by decide) ?_ ?_
        ·
          refine qb_aload_n hX 84 rfl rfl ?_
          refine qb_getR hX 85 rfl fl_Model_120 hthis rfl ?_
          refine qb_iload_n hX 86 rfl rfl ?_
          refine qb_bipush hX 87 8 rfl (by decide) ?_
          refine qb_iadd hX 88 rfl ?_
          refine qb_iconst hX 89 2 rfl (by decide) ?_
          refine qb_iload_n hX 90 rfl rfl ?_
          refine qb_imul hX 91 rfl ?_
          refine qb_iadd hX 92 rfl ?_
          refine qb_iconst hX 93 1 rfl (by decide) ?_
          refine qb_iadd hX 94 rfl ?_
          refine qb_aload_n hX 95 rfl rfl ?_
          refine qb_get hX 96 rfl fl_Model_390 hthis rfl (fun x16 => ?_)
          refine qb_iast hX 97 rfl (kf_Model_50 hthis) ?_
          refine qb_aload_n hX 98 rfl rfl ?_
          refine qb_getR hX 99 rfl fl_Model_120 hthis rfl ?_
          refine qb_iload_n hX 100 rfl rfl ?_
          refine qb_bipush hX 101 7 rfl (by decide) ?_
          refine qb_iadd hX 102 rfl ?_
          refine qb_dup2 hX 103 rfl rfl rfl ?_
          refine qb_iald hX 104 rfl (kf_Model_50 hthis) (fun x17 => ?_)
          refine qb_iconst hX 105 1 rfl (by decide) ?_
          refine qb_iadd hX 106 rfl ?_
          refine qb_iast hX 107 rfl (kf_Model_50 hthis) ?_
          refine qb_iconst hX 108 1 rfl (by decide) ?_
          exact qb_zret1 hX 109 rfl hR (by decide) (fun _ h => h)
        ·
          refine qb_iconst hX 82 0 rfl (by decide) ?_
          exact qb_zret1 hX 83 rfl hR (by decide) (fun _ h => h)
    ·
      refine qb_iconst hX 30 0 rfl (by decide) ?_
      exact qb_zret1 hX 31 rfl hR (by decide) (fun _ h => h)
  ·
    refine qb_aload_n hX 8 rfl rfl ?_
    refine qb_iconst hX 9 3 rfl (by decide) ?_
    refine qb_aload_n hX 10 rfl rfl ?_
    refine qb_get hX 11 rfl fl_Model_355 hthis rfl (fun x18 => ?_)
    refine qb_callI hX 12 rfl cv_Model_384 (jm_Model_fails (qk_GI hX) this 3 x18 hthis ) (ci := 9) hthis ⟨rfl, rfl, rfl, by decide, by decide⟩ rfl (by exact Nat.le_of_ble_eq_true rfl) (fun x19 => ?_)
    exact qb_zret hX 13 (a := fun x20 => x20) rfl hR (fun _ h => h)
theorem jm_Model_readsMark {l : Launch} {G : qm_G} (hG : qm_GI G) (this : Nat) (p1 : Int32) (hthis : (qm_kd this).1 = 19) : qm_MI l G jy_Model_readsMark prog_11_method_94_code 4 (some .boolean) 3 63 [.ref (G.1 this), .int p1] (jf_Model_readsMark this p1) :=
  qm_metI (by decide +kernel) jd_Model_readsMark (fun v hv => by simp only [List.mem_cons, List.not_mem_nil, or_false] at hv; rcases hv with rfl | rfl <;> rfl) (by exact Nat.le_of_ble_eq_true rfl) hG rfl (fun X hl hg hX r0 σ0 hR => by subst hl; subst hg; exact jb_Model_readsMark hX hR this p1 hthis)
def jl_Model_keepsAct : List qm_I := [(0, .aload_n 0, 1, 1), (1, .getfield 487, 3, 4), (4, .bipush 10, 2, 6), (6, .if_icmp .ne 46, 3, 9), (9, .sipush 265, 3, 12), (12, .istore_n 1, 1, 13), (13, .iload_n 1, 1, 14), (14, .sipush 2650, 3, 17), (17, .if_icmp .ge 25, 3, 20), (20, .aload_n 0, 1, 21), (21, .getfield 13, 3, 24), (24, .iload_n 1, 1, 25), (25, .sipush 265, 3, 28), (28, .isub, 1, 29), (29, .aload_n 0, 1, 30), (30, .getfield 13, 3, 33), (33, .iload_n 1, 1, 34), (34, .iaload, 1, 35), (35, .iastore, 1, 36), (36, .iinc 1 1, 3, 39), (39, .goto (-26), 3, 42), (42, .aload_n 0, 1, 43), (43, .dup, 1, 44), (44, .getfield 487, 3, 47), (47, .iconst 1, 1, 48), (48, .isub, 1, 49), (49, .putfield 487, 3, 52), (52, .iconst 0, 1, 53), (53, .istore_n 1, 1, 54), (54, .iload_n 1, 1, 55), (55, .sipush 265, 3, 58), (58, .if_icmp .ge 30, 3, 61), (61, .aload_n 0, 1, 62), (62, .getfield 13, 3, 65), (65, .sipush 265, 3, 68), (68, .aload_n 0, 1, 69), (69, .getfield 487, 3, 72), (72, .imul, 1, 73), (73, .iload_n 1, 1, 74), (74, .iadd, 1, 75), (75, .aload_n 0, 1, 76), (76, .getfield 7, 3, 79), (79, .iload_n 1, 1, 80), (80, .iaload, 1, 81), (81, .iastore, 1, 82), (82, .iinc 1 1, 3, 85), (85, .goto (-31), 3, 88), (88, .aload_n 0, 1, 89), (89, .dup, 1, 90), (90, .getfield 487, 3, 93), (93, .iconst 1, 1, 94), (94, .iadd, 1, 95), (95, .putfield 487, 3, 98), (98, .return_, 1, 99)]
theorem jd_Model_keepsAct : qm_D prog_11_method_102_code jl_Model_keepsAct := qm_D_of (by decide +kernel)
noncomputable def jf_Model_keepsAct (this : Nat) : qm_M Unit :=
  mB (mGt this 2) fun x1 =>
  mB (α := Unit) (
    if ¬ x1 = 10 then
      mP ()
    else
      mB (α := Unit) (
        mW (S := Int32) (α := Unit) (fun s4 =>
          if 2650 ≤ s4 then
            mP (Sum.inr ())
          else
            mB (mLd (qm_rf this 1) s4) fun x5 =>
            mB (mSt (qm_rf this 1) (s4 - 265) x5) fun _ =>
            mB (mP (s4 + 1)) fun x6 =>
            mP (Sum.inl x6)) 265) fun s3 =>
      mB (mGt this 2) fun x7 =>
      mB (mPt this 2 (x7 - 1)) fun _ =>
      mP ()) fun s2 =>
  mB (α := Unit) (
    mW (S := Int32) (α := Unit) (fun s9 =>
      if 265 ≤ s9 then
        mP (Sum.inr ())
      else
        mB (mGt this 2) fun x10 =>
        mB (mLd (qm_rf this 0) s9) fun x11 =>
        mB (mSt (qm_rf this 1) ((265 * x10) + s9) x11) fun _ =>
        mB (mP (s9 + 1)) fun x12 =>
        mP (Sum.inl x12)) 0) fun s8 =>
  mB (mGt this 2) fun x13 =>
  mB (mPt this 2 (x13 + 1)) fun _ =>
  mP ()
set_option maxRecDepth 20000 in
set_option maxHeartbeats 4000000 in
theorem jb_Model_keepsAct {X : qm_X} (hX : qm_ok X qr_Model prog_11_method_102_code 2 0 0 jl_Model_keepsAct) {σ0 : qm_Mem} (hR : qm_RV X σ0) (this : Nat) (hthis : (qm_kd this).1 = 19) : qm_B X (jf_Model_keepsAct this) 0 [some (.ref (qx_ad X this)), none] [] (fun _ σ1 => σ1 = σ0) := by
  unfold jf_Model_keepsAct
  refine qb_aload_n hX 0 rfl rfl ?_
  refine qb_get hX 1 rfl fl_Model_487 hthis rfl (fun x1 => ?_)
  refine qb_bipush hX 2 10 rfl (by decide) ?_
  refine qb_join 52 (fun s2 => [some (.ref (qx_ad X this)), none]) (fun s2 => []) ?_ ?_
  ·
    refine qb_icne hX 3 52 rfl (by decide) ?_ ?_
    ·
      exact qb_exit (fun σ h => qj_wk (ρ' := [some (.ref (qx_ad X this)), none]) (qw_s (qw_n (qw_0))) h)
    ·
      refine qb_sipush hX 4 265 rfl (by decide) ?_
      refine qb_istore_n hX 5 ([some (.ref (qx_ad X this)), some (.int 265)]) rfl (by decide) rfl ?_
      refine qb_join 42 (fun s3 => [some (.ref (qx_ad X this)), none]) (fun s3 => []) ?_ ?_
      ·
        refine qb_loopw (265) (fun s4 => [some (.ref (qx_ad X this)), some (.int s4)]) (qw_s (qw_s (qw_0))) (fun s4 => ?_)
        refine qb_iload_n hX 6 rfl rfl ?_
        refine qb_sipush hX 7 2650 rfl (by decide) ?_
        refine qb_icge hX 8 42 rfl (by decide) ?_ ?_
        ·
          exact qb_exit (fun σ h => qj_wk (ρ' := [some (.ref (qx_ad X this)), none]) (qw_s (qw_n (qw_0))) h)
        ·
          refine qb_aload_n hX 9 rfl rfl ?_
          refine qb_getR hX 10 rfl fl_Model_13 hthis rfl ?_
          refine qb_iload_n hX 11 rfl rfl ?_
          refine qb_sipush hX 12 265 rfl (by decide) ?_
          refine qb_isub hX 13 rfl ?_
          refine qb_aload_n hX 14 rfl rfl ?_
          refine qb_getR hX 15 rfl fl_Model_13 hthis rfl ?_
          refine qb_iload_n hX 16 rfl rfl ?_
          refine qb_iald hX 17 rfl (kf_Model_1 hthis) (fun x5 => ?_)
          refine qb_iast hX 18 rfl (kf_Model_1 hthis) ?_
          refine qb_iinc hX 19 1 (fun x6 => [some (.ref (qx_ad X this)), some (.int x6)]) rfl (by decide) (by decide) rfl (fun _ => rfl) (fun x6 => ?_)
          exact qb_exit (fun σ h => qj_goto hX 20 rfl (by decide) (qj_wk (ρ' := [some (.ref (qx_ad X this)), some (.int x6)]) (qw_s (qw_s (qw_0))) h))
      · intro s3
        refine qb_aload_n hX 21 rfl rfl ?_
        refine qb_dup hX 22 rfl rfl ?_
        refine qb_get hX 23 rfl fl_Model_487 hthis rfl (fun x7 => ?_)
        refine qb_iconst hX 24 1 rfl (by decide) ?_
        refine qb_isub hX 25 rfl ?_
        refine qb_put hX 26 rfl fp_Model_487 hthis ?_
        exact qb_exit (fun σ h => qj_wk (ρ' := [some (.ref (qx_ad X this)), none]) (qw_s (qw_n (qw_0))) h)
  · intro s2
    refine qb_iconst hX 27 0 rfl (by decide) ?_
    refine qb_istore_n hX 28 ([some (.ref (qx_ad X this)), some (.int 0)]) rfl (by decide) rfl ?_
    refine qb_join 88 (fun s8 => [some (.ref (qx_ad X this)), none]) (fun s8 => []) ?_ ?_
    ·
      refine qb_loopw (0) (fun s9 => [some (.ref (qx_ad X this)), some (.int s9)]) (qw_s (qw_s (qw_0))) (fun s9 => ?_)
      refine qb_iload_n hX 29 rfl rfl ?_
      refine qb_sipush hX 30 265 rfl (by decide) ?_
      refine qb_icge hX 31 88 rfl (by decide) ?_ ?_
      ·
        exact qb_exit (fun σ h => qj_wk (ρ' := [some (.ref (qx_ad X this)), none]) (qw_s (qw_n (qw_0))) h)
      ·
        refine qb_aload_n hX 32 rfl rfl ?_
        refine qb_getR hX 33 rfl fl_Model_13 hthis rfl ?_
        refine qb_sipush hX 34 265 rfl (by decide) ?_
        refine qb_aload_n hX 35 rfl rfl ?_
        refine qb_get hX 36 rfl fl_Model_487 hthis rfl (fun x10 => ?_)
        refine qb_imul hX 37 rfl ?_
        refine qb_iload_n hX 38 rfl rfl ?_
        refine qb_iadd hX 39 rfl ?_
        refine qb_aload_n hX 40 rfl rfl ?_
        refine qb_getR hX 41 rfl fl_Model_7 hthis rfl ?_
        refine qb_iload_n hX 42 rfl rfl ?_
        refine qb_iald hX 43 rfl (kf_Model_0 hthis) (fun x11 => ?_)
        refine qb_iast hX 44 rfl (kf_Model_1 hthis) ?_
        refine qb_iinc hX 45 1 (fun x12 => [some (.ref (qx_ad X this)), some (.int x12)]) rfl (by decide) (by decide) rfl (fun _ => rfl) (fun x12 => ?_)
        exact qb_exit (fun σ h => qj_goto hX 46 rfl (by decide) (qj_wk (ρ' := [some (.ref (qx_ad X this)), some (.int x12)]) (qw_s (qw_s (qw_0))) h))
    · intro s8
      refine qb_aload_n hX 47 rfl rfl ?_
      refine qb_dup hX 48 rfl rfl ?_
      refine qb_get hX 49 rfl fl_Model_487 hthis rfl (fun x13 => ?_)
      refine qb_iconst hX 50 1 rfl (by decide) ?_
      refine qb_iadd hX 51 rfl ?_
      refine qb_put hX 52 rfl fp_Model_487 hthis ?_
      exact qb_vret hX 53 rfl hR (fun _ h => h)
theorem jm_Model_keepsAct {l : Launch} {G : qm_G} (hG : qm_GI G) (this : Nat) (hthis : (qm_kd this).1 = 19) : qm_MV l G jy_Model_keepsAct prog_11_method_102_code 2 0 0 [.ref (G.1 this)] (jf_Model_keepsAct this) :=
  qm_metV (by decide +kernel) jd_Model_keepsAct (fun v hv => by simp only [List.mem_cons, List.not_mem_nil, or_false] at hv; rcases hv with rfl <;> rfl) (by exact Nat.le_of_ble_eq_true rfl) hG (fun X hl hg hX σ0 hR => by subst hl; subst hg; exact jb_Model_keepsAct hX hR this hthis)
def jl_Model_set : List qm_I := [(0, .iload_n 1, 1, 1), (1, .iload_n 2, 1, 2), (2, .invokestatic 301, 3, 5), (5, .ifCond .ne 5, 3, 8), (8, .iconst (-1), 1, 9), (9, .ireturn, 1, 10), (10, .aload_n 0, 1, 11), (11, .getfield 7, 3, 14), (14, .iload_n 1, 1, 15), (15, .iaload, 1, 16), (16, .istore_n 3, 1, 17), (17, .iload_n 3, 1, 18), (18, .iload_n 2, 1, 19), (19, .if_icmp .ne 6, 3, 22), (22, .bipush (-2), 2, 24), (24, .ireturn, 1, 25), (25, .aload_n 0, 1, 26), (26, .invokevirtual 490, 3, 29), (29, .aload_n 0, 1, 30), (30, .getfield 7, 3, 33), (33, .iload_n 1, 1, 34), (34, .iload_n 2, 1, 35), (35, .iastore, 1, 36), (36, .iload_n 3, 1, 37), (37, .ireturn, 1, 38)]
theorem jd_Model_set : qm_D prog_11_method_103_code jl_Model_set := qm_D_of (by decide +kernel)
noncomputable def jf_Model_set (this : Nat) (p1 : Int32) (p2 : Int32) : qm_M Int32 :=
  mB (jf_Model_isSetting p1 p2) fun x1 =>
  if ¬ x1 = 0 then
    mB (mLd (qm_rf this 0) p1) fun x2 =>
    if ¬ x2 = p2 then
      mB (jf_Model_keepsAct this) fun _ =>
      mB (mSt (qm_rf this 0) p1 p2) fun _ =>
      mP x2
    else
      mP (-2)
  else
    mP (-1)
set_option maxRecDepth 20000 in
set_option maxHeartbeats 4000000 in
theorem jb_Model_set {X : qm_X} (hX : qm_ok X qr_Model prog_11_method_103_code 4 2 46 jl_Model_set) {r0 : Int32} {σ0 : qm_Mem} (hR : qm_RI X r0 σ0 .int) (this : Nat) (p1 : Int32) (p2 : Int32) (hthis : (qm_kd this).1 = 19) : qm_B X (jf_Model_set this p1 p2) 0 [some (.ref (qx_ad X this)), some (.int p1), some (.int p2), none] [] (fun r σ1 => r = r0 ∧ σ1 = σ0) := by
  unfold jf_Model_set
  refine qb_iload_n hX 0 rfl rfl ?_
  refine qb_iload_n hX 1 rfl rfl ?_
  refine qb_calSI hX 2 rfl cv_Model_301 (jm_Model_isSetting (qk_GI hX) p1 p2 ) ⟨rfl, by decide, by decide⟩ rfl (by exact Nat.le_of_ble_eq_true rfl) (fun x1 => ?_)
  refine qb_ifne hX 3 10 rfl (by decide) ?_ ?_
  ·
    refine qb_aload_n hX 6 rfl rfl ?_
    refine qb_getR hX 7 rfl fl_Model_7 hthis rfl ?_
    refine qb_iload_n hX 8 rfl rfl ?_
    refine qb_iald hX 9 rfl (kf_Model_0 hthis) (fun x2 => ?_)
    refine qb_istore_n hX 10 ([some (.ref (qx_ad X this)), some (.int p1), some (.int p2), some (.int x2)]) rfl (by decide) rfl ?_
    refine qb_iload_n hX 11 rfl rfl ?_
    refine qb_iload_n hX 12 rfl rfl ?_
    refine qb_icne hX 13 25 rfl (by decide) ?_ ?_
    ·
      refine qb_aload_n hX 16 rfl rfl ?_
      refine qb_callV hX 17 rfl cv_Model_490 (jm_Model_keepsAct (qk_GI hX) this  hthis ) (ci := 9) hthis ⟨rfl, rfl, rfl, by decide, by decide⟩ rfl (by exact Nat.le_of_ble_eq_true rfl) ?_
      refine qb_aload_n hX 18 rfl rfl ?_
      refine qb_getR hX 19 rfl fl_Model_7 hthis rfl ?_
      refine qb_iload_n hX 20 rfl rfl ?_
      refine qb_iload_n hX 21 rfl rfl ?_
      refine qb_iast hX 22 rfl (kf_Model_0 hthis) ?_
      refine qb_iload_n hX 23 rfl rfl ?_
      exact qb_iret hX 24 rfl hR (fun _ h => h)
    ·
      refine qb_bipush hX 14 (-2) rfl (by decide) ?_
      exact qb_iret hX 15 rfl hR (fun _ h => h)
  ·
    refine qb_iconst hX 4 (-1) rfl (by decide) ?_
    exact qb_iret hX 5 rfl hR (fun _ h => h)
theorem jm_Model_set {l : Launch} {G : qm_G} (hG : qm_GI G) (this : Nat) (p1 : Int32) (p2 : Int32) (hthis : (qm_kd this).1 = 19) : qm_MI l G jy_Model_set prog_11_method_103_code 4 (some .int) 2 46 [.ref (G.1 this), .int p1, .int p2] (jf_Model_set this p1 p2) :=
  qm_metI (by decide +kernel) jd_Model_set (fun v hv => by simp only [List.mem_cons, List.not_mem_nil, or_false] at hv; rcases hv with rfl | rfl | rfl <;> rfl) (by exact Nat.le_of_ble_eq_true rfl) hG rfl (fun X hl hg hX r0 σ0 hR => by subst hl; subst hg; exact jb_Model_set hX hR this p1 p2 hthis)
def jl_Model_isPlain : List qm_I := [(0, .aload_n 0, 1, 1), (1, .iload_n 1, 1, 2), (2, .invokevirtual 279, 3, 5), (5, .ifCond .eq 17, 3, 8), (8, .aload_n 0, 1, 9), (9, .iload_n 1, 1, 10), (10, .iconst 0, 1, 11), (11, .invokevirtual 144, 3, 14), (14, .iconst 4, 1, 15), (15, .if_icmp .eq 7, 3, 18), (18, .iconst 1, 1, 19), (19, .goto 4, 3, 22), (22, .iconst 0, 1, 23), (23, .ireturn, 1, 24)]
theorem jd_Model_isPlain : qm_D prog_11_method_104_code jl_Model_isPlain := qm_D_of (by decide +kernel)
noncomputable def jf_Model_isPlain (this : Nat) (p1 : Int32) : qm_M Int32 :=
  mB (jf_Model_isBlock this p1) fun x1 =>
  if x1 = 0 then
    mP 0
  else
    mB (jf_Model_of this p1 0) fun x2 =>
    if x2 = 4 then
      mP 0
    else
      mP 1
set_option maxRecDepth 20000 in
set_option maxHeartbeats 4000000 in
theorem jb_Model_isPlain {X : qm_X} (hX : qm_ok X qr_Model prog_11_method_104_code 2 2 46 jl_Model_isPlain) {r0 : Int32} {σ0 : qm_Mem} (hR : qm_RI X r0 σ0 .boolean) (this : Nat) (p1 : Int32) (hthis : (qm_kd this).1 = 19) : qm_B X (jf_Model_isPlain this p1) 0 [some (.ref (qx_ad X this)), some (.int p1)] [] (fun r σ1 => r = r0 ∧ σ1 = σ0) := by
  unfold jf_Model_isPlain
  refine qb_aload_n hX 0 rfl rfl ?_
  refine qb_iload_n hX 1 rfl rfl ?_
  refine qb_callI hX 2 rfl cv_Model_279 (jm_Model_isBlock (qk_GI hX) this p1 hthis ) (ci := 9) hthis ⟨rfl, rfl, rfl, by decide, by decide⟩ rfl (by exact Nat.le_of_ble_eq_true rfl) (fun x1 => ?_)
  refine qb_ifeq hX 3 22 rfl (by decide) ?_ ?_
  ·
    refine qb_iconst hX 12 0 rfl (by decide) ?_
    exact qb_zret1 hX 13 rfl hR (by decide) (fun _ h => h)
  ·
    refine qb_aload_n hX 4 rfl rfl ?_
    refine qb_iload_n hX 5 rfl rfl ?_
    refine qb_iconst hX 6 0 rfl (by decide) ?_
    refine qb_callI hX 7 rfl cv_Model_144 (jm_Model_of (qk_GI hX) this p1 0 hthis ) (ci := 9) hthis ⟨rfl, rfl, rfl, by decide, by decide⟩ rfl (by exact Nat.le_of_ble_eq_true rfl) (fun x2 => ?_)
    refine qb_iconst hX 8 4 rfl (by decide) ?_
    refine qb_iceq hX 9 22 rfl (by decide) ?_ ?_
    ·
      refine qb_iconst hX 12 0 rfl (by decide) ?_
      exact qb_zret1 hX 13 rfl hR (by decide) (fun _ h => h)
    ·
      refine qb_iconst hX 10 1 rfl (by decide) ?_
      refine qb_goto hX 11 (tgt := 23) rfl (by decide) ?_
      exact qb_zret1 hX 13 rfl hR (by decide) (fun _ h => h)
theorem jm_Model_isPlain {l : Launch} {G : qm_G} (hG : qm_GI G) (this : Nat) (p1 : Int32) (hthis : (qm_kd this).1 = 19) : qm_MI l G jy_Model_isPlain prog_11_method_104_code 2 (some .boolean) 2 46 [.ref (G.1 this), .int p1] (jf_Model_isPlain this p1) :=
  qm_metI (by decide +kernel) jd_Model_isPlain (fun v hv => by simp only [List.mem_cons, List.not_mem_nil, or_false] at hv; rcases hv with rfl | rfl <;> rfl) (by exact Nat.le_of_ble_eq_true rfl) hG rfl (fun X hl hg hX r0 σ0 hR => by subst hl; subst hg; exact jb_Model_isPlain hX hR this p1 hthis)
def jl_Model_tie : List qm_I := [(0, .aload_n 0, 1, 1), (1, .iload_n 1, 1, 2), (2, .invokevirtual 493, 3, 5), (5, .ifCond .ne 5, 3, 8), (8, .iconst (-1), 1, 9), (9, .ireturn, 1, 10), (10, .aload_n 0, 1, 11), (11, .iload_n 1, 1, 12), (12, .iconst 4, 1, 13), (13, .invokevirtual 144, 3, 16), (16, .iconst 1, 1, 17), (17, .if_icmp .ne 7, 3, 20), (20, .iconst 1, 1, 21), (21, .goto 4, 3, 24), (24, .iconst 0, 1, 25), (25, .iload_n 2, 1, 26), (26, .if_icmp .ne 6, 3, 29), (29, .bipush (-2), 2, 31), (31, .ireturn, 1, 32), (32, .aload_n 0, 1, 33), (33, .invokevirtual 490, 3, 36), (36, .aload_n 0, 1, 37), (37, .getfield 7, 3, 40), (40, .bipush 9, 2, 42), (42, .bipush 16, 2, 44), (44, .iload_n 1, 1, 45), (45, .imul, 1, 46), (46, .iadd, 1, 47), (47, .iconst 4, 1, 48), (48, .iadd, 1, 49), (49, .iload_n 2, 1, 50), (50, .ifCond .eq 7, 3, 53), (53, .iconst 1, 1, 54), (54, .goto 4, 3, 57), (57, .iconst 0, 1, 58), (58, .iastore, 1, 59), (59, .iconst 1, 1, 60), (60, .ireturn, 1, 61)]
theorem jd_Model_tie : qm_D prog_11_method_105_code jl_Model_tie := qm_D_of (by decide +kernel)
noncomputable def jf_Model_tie (this : Nat) (p1 : Int32) (p2 : Int32) : qm_M Int32 :=
  mB (jf_Model_isPlain this p1) fun x1 =>
  if ¬ x1 = 0 then
    mB (jf_Model_of this p1 4) fun x2 =>
    mB (α := Int32) (
      if ¬ x2 = 1 then
        mP 0
      else
        mP 1) fun s3 =>
    if ¬ s3 = p2 then
      mB (jf_Model_keepsAct this) fun _ =>
      if p2 = 0 then
        mB (mSt (qm_rf this 0) ((9 + (16 * p1)) + 4) 0) fun _ =>
        mP 1
      else
        mB (mSt (qm_rf this 0) ((9 + (16 * p1)) + 4) 1) fun _ =>
        mP 1
    else
      mP (-2)
  else
    mP (-1)
set_option maxRecDepth 20000 in
set_option maxHeartbeats 4000000 in
theorem jb_Model_tie {X : qm_X} (hX : qm_ok X qr_Model prog_11_method_105_code 3 3 67 jl_Model_tie) {r0 : Int32} {σ0 : qm_Mem} (hR : qm_RI X r0 σ0 .int) (this : Nat) (p1 : Int32) (p2 : Int32) (hthis : (qm_kd this).1 = 19) : qm_B X (jf_Model_tie this p1 p2) 0 [some (.ref (qx_ad X this)), some (.int p1), some (.int p2)] [] (fun r σ1 => r = r0 ∧ σ1 = σ0) := by
  unfold jf_Model_tie
  refine qb_aload_n hX 0 rfl rfl ?_
  refine qb_iload_n hX 1 rfl rfl ?_
  refine qb_callI hX 2 rfl cv_Model_493 (jm_Model_isPlain (qk_GI hX) this p1 hthis ) (ci := 9) hthis ⟨rfl, rfl, rfl, by decide, by decide⟩ rfl (by exact Nat.le_of_ble_eq_true rfl) (fun x1 => ?_)
  refine qb_ifne hX 3 10 rfl (by decide) ?_ ?_
  ·
    refine qb_aload_n hX 6 rfl rfl ?_
    refine qb_iload_n hX 7 rfl rfl ?_
    refine qb_iconst hX 8 4 rfl (by decide) ?_
    refine qb_callI hX 9 rfl cv_Model_144 (jm_Model_of (qk_GI hX) this p1 4 hthis ) (ci := 9) hthis ⟨rfl, rfl, rfl, by decide, by decide⟩ rfl (by exact Nat.le_of_ble_eq_true rfl) (fun x2 => ?_)
    refine qb_iconst hX 10 1 rfl (by decide) ?_
    refine qb_join 25 (fun s3 => [some (.ref (qx_ad X this)), some (.int p1), some (.int p2)]) (fun s3 => [.int s3]) ?_ ?_
    ·
      refine qb_icne hX 11 24 rfl (by decide) ?_ ?_
      ·
        refine qb_iconst hX 14 0 rfl (by decide) ?_
        exact qb_exit (fun σ h => qj_wk (ρ' := [some (.ref (qx_ad X this)), some (.int p1), some (.int p2)]) (qw_s (qw_s (qw_s (qw_0)))) h)
      ·
        refine qb_iconst hX 12 1 rfl (by decide) ?_
        exact qb_exit (fun σ h => qj_goto hX 13 rfl (by decide) (qj_wk (ρ' := [some (.ref (qx_ad X this)), some (.int p1), some (.int p2)]) (qw_s (qw_s (qw_s (qw_0)))) h))
    · intro s3
      refine qb_iload_n hX 15 rfl rfl ?_
      refine qb_icne hX 16 32 rfl (by decide) ?_ ?_
      ·
        refine qb_aload_n hX 19 rfl rfl ?_
        refine qb_callV hX 20 rfl cv_Model_490 (jm_Model_keepsAct (qk_GI hX) this  hthis ) (ci := 9) hthis ⟨rfl, rfl, rfl, by decide, by decide⟩ rfl (by exact Nat.le_of_ble_eq_true rfl) ?_
        refine qb_aload_n hX 21 rfl rfl ?_
        refine qb_getR hX 22 rfl fl_Model_7 hthis rfl ?_
        refine qb_bipush hX 23 9 rfl (by decide) ?_
        refine qb_bipush hX 24 16 rfl (by decide) ?_
        refine qb_iload_n hX 25 rfl rfl ?_
        refine qb_imul hX 26 rfl ?_
        refine qb_iadd hX 27 rfl ?_
        refine qb_iconst hX 28 4 rfl (by decide) ?_
        refine qb_iadd hX 29 rfl ?_
        refine qb_iload_n hX 30 rfl rfl ?_
        refine qb_ifeq hX 31 57 rfl (by decide) ?_ ?_
        ·
          refine qb_iconst hX 34 0 rfl (by decide) ?_
          refine qb_iast hX 35 rfl (kf_Model_0 hthis) ?_
          refine qb_iconst hX 36 1 rfl (by decide) ?_
          exact qb_iret hX 37 rfl hR (fun _ h => h)
        ·
          refine qb_iconst hX 32 1 rfl (by decide) ?_
          refine qb_goto hX 33 (tgt := 58) rfl (by decide) ?_
          refine qb_iast hX 35 rfl (kf_Model_0 hthis) ?_
          refine qb_iconst hX 36 1 rfl (by decide) ?_
          exact qb_iret hX 37 rfl hR (fun _ h => h)
      ·
        refine qb_bipush hX 17 (-2) rfl (by decide) ?_
        exact qb_iret hX 18 rfl hR (fun _ h => h)
  ·
    refine qb_iconst hX 4 (-1) rfl (by decide) ?_
    exact qb_iret hX 5 rfl hR (fun _ h => h)
theorem jm_Model_tie {l : Launch} {G : qm_G} (hG : qm_GI G) (this : Nat) (p1 : Int32) (p2 : Int32) (hthis : (qm_kd this).1 = 19) : qm_MI l G jy_Model_tie prog_11_method_105_code 3 (some .int) 3 67 [.ref (G.1 this), .int p1, .int p2] (jf_Model_tie this p1 p2) :=
  qm_metI (by decide +kernel) jd_Model_tie (fun v hv => by simp only [List.mem_cons, List.not_mem_nil, or_false] at hv; rcases hv with rfl | rfl | rfl <;> rfl) (by exact Nat.le_of_ble_eq_true rfl) hG rfl (fun X hl hg hX r0 σ0 hR => by subst hl; subst hg; exact jb_Model_tie hX hR this p1 p2 hthis)
def jl_Model_space : List qm_I := [(0, .aload_n 0, 1, 1), (1, .iload_n 1, 1, 2), (2, .invokevirtual 493, 3, 5), (5, .ifCond .eq 15, 3, 8), (8, .iload_n 2, 1, 9), (9, .i2l, 1, 10), (10, .lconst 0, 1, 11), (11, .ldc2_w 496, 3, 14), (14, .invokestatic 129, 3, 17), (17, .ifCond .ne 5, 3, 20), (20, .iconst (-1), 1, 21), (21, .ireturn, 1, 22), (22, .aload_n 0, 1, 23), (23, .iload_n 1, 1, 24), (24, .bipush 6, 2, 26), (26, .invokevirtual 144, 3, 29), (29, .istore_n 3, 1, 30), (30, .iload_n 3, 1, 31), (31, .iload_n 2, 1, 32), (32, .if_icmp .ne 6, 3, 35), (35, .bipush (-2), 2, 37), (37, .ireturn, 1, 38), (38, .aload_n 0, 1, 39), (39, .invokevirtual 490, 3, 42), (42, .aload_n 0, 1, 43), (43, .getfield 7, 3, 46), (46, .bipush 9, 2, 48), (48, .bipush 16, 2, 50), (50, .iload_n 1, 1, 51), (51, .imul, 1, 52), (52, .iadd, 1, 53), (53, .bipush 6, 2, 55), (55, .iadd, 1, 56), (56, .iload_n 2, 1, 57), (57, .iastore, 1, 58), (58, .iload_n 3, 1, 59), (59, .ireturn, 1, 60)]
theorem jd_Model_space : qm_D prog_11_method_106_code jl_Model_space := qm_D_of (by decide +kernel)
noncomputable def jf_Model_space (this : Nat) (p1 : Int32) (p2 : Int32) : qm_M Int32 :=
  mB (jf_Model_isPlain this p1) fun x1 =>
  if x1 = 0 then
    mP (-1)
  else
    mB (jf_Model_in (Int32.toInt64 p2) (0 : Int64) (30 : Int64)) fun x2 =>
    if ¬ x2 = 0 then
      mB (jf_Model_of this p1 6) fun x3 =>
      if ¬ x3 = p2 then
        mB (jf_Model_keepsAct this) fun _ =>
        mB (mSt (qm_rf this 0) ((9 + (16 * p1)) + 6) p2) fun _ =>
        mP x3
      else
        mP (-2)
    else
      mP (-1)
set_option maxRecDepth 20000 in
set_option maxHeartbeats 4000000 in
theorem jb_Model_space {X : qm_X} (hX : qm_ok X qr_Model prog_11_method_106_code 4 3 67 jl_Model_space) {r0 : Int32} {σ0 : qm_Mem} (hR : qm_RI X r0 σ0 .int) (this : Nat) (p1 : Int32) (p2 : Int32) (hthis : (qm_kd this).1 = 19) : qm_B X (jf_Model_space this p1 p2) 0 [some (.ref (qx_ad X this)), some (.int p1), some (.int p2), none] [] (fun r σ1 => r = r0 ∧ σ1 = σ0) := by
  unfold jf_Model_space
  refine qb_aload_n hX 0 rfl rfl ?_
  refine qb_iload_n hX 1 rfl rfl ?_
  refine qb_callI hX 2 rfl cv_Model_493 (jm_Model_isPlain (qk_GI hX) this p1 hthis ) (ci := 9) hthis ⟨rfl, rfl, rfl, by decide, by decide⟩ rfl (by exact Nat.le_of_ble_eq_true rfl) (fun x1 => ?_)
  refine qb_ifeq hX 3 20 rfl (by decide) ?_ ?_
  ·
    refine qb_iconst hX 10 (-1) rfl (by decide) ?_
    exact qb_iret hX 11 rfl hR (fun _ h => h)
  ·
    refine qb_iload_n hX 4 rfl rfl ?_
    refine qb_i2l hX 5 rfl ?_
    refine qb_lconst hX 6 0 rfl (by decide) ?_
    refine qb_ldc2w hX 7 30 rfl kl_Model_496 ?_
    refine qb_calSI hX 8 rfl cv_Model_129 (jm_Model_in (qk_GI hX) (Int32.toInt64 p2) (0 : Int64) (30 : Int64) ) ⟨rfl, by decide, by decide⟩ rfl (by exact Nat.le_of_ble_eq_true rfl) (fun x2 => ?_)
    refine qb_ifne hX 9 22 rfl (by decide) ?_ ?_
    ·
      refine qb_aload_n hX 12 rfl rfl ?_
      refine qb_iload_n hX 13 rfl rfl ?_
      refine qb_bipush hX 14 6 rfl (by decide) ?_
      refine qb_callI hX 15 rfl cv_Model_144 (jm_Model_of (qk_GI hX) this p1 6 hthis ) (ci := 9) hthis ⟨rfl, rfl, rfl, by decide, by decide⟩ rfl (by exact Nat.le_of_ble_eq_true rfl) (fun x3 => ?_)
      refine qb_istore_n hX 16 ([some (.ref (qx_ad X this)), some (.int p1), some (.int p2), some (.int x3)]) rfl (by decide) rfl ?_
      refine qb_iload_n hX 17 rfl rfl ?_
      refine qb_iload_n hX 18 rfl rfl ?_
      refine qb_icne hX 19 38 rfl (by decide) ?_ ?_
      ·
        refine qb_aload_n hX 22 rfl rfl ?_
        refine qb_callV hX 23 rfl cv_Model_490 (jm_Model_keepsAct (qk_GI hX) this  hthis ) (ci := 9) hthis ⟨rfl, rfl, rfl, by decide, by decide⟩ rfl (by exact Nat.le_of_ble_eq_true rfl) ?_
        refine qb_aload_n hX 24 rfl rfl ?_
        refine qb_getR hX 25 rfl fl_Model_7 hthis rfl ?_
        refine qb_bipush hX 26 9 rfl (by decide) ?_
        refine qb_bipush hX 27 16 rfl (by decide) ?_
        refine qb_iload_n hX 28 rfl rfl ?_
        refine qb_imul hX 29 rfl ?_
        refine qb_iadd hX 30 rfl ?_
        refine qb_bipush hX 31 6 rfl (by decide) ?_
        refine qb_iadd hX 32 rfl ?_
        refine qb_iload_n hX 33 rfl rfl ?_
        refine qb_iast hX 34 rfl (kf_Model_0 hthis) ?_
        refine qb_iload_n hX 35 rfl rfl ?_
        exact qb_iret hX 36 rfl hR (fun _ h => h)
      ·
        refine qb_bipush hX 20 (-2) rfl (by decide) ?_
        exact qb_iret hX 21 rfl hR (fun _ h => h)
    ·
      refine qb_iconst hX 10 (-1) rfl (by decide) ?_
      exact qb_iret hX 11 rfl hR (fun _ h => h)
theorem jm_Model_space {l : Launch} {G : qm_G} (hG : qm_GI G) (this : Nat) (p1 : Int32) (p2 : Int32) (hthis : (qm_kd this).1 = 19) : qm_MI l G jy_Model_space prog_11_method_106_code 4 (some .int) 3 67 [.ref (G.1 this), .int p1, .int p2] (jf_Model_space this p1 p2) :=
  qm_metI (by decide +kernel) jd_Model_space (fun v hv => by simp only [List.mem_cons, List.not_mem_nil, or_false] at hv; rcases hv with rfl | rfl | rfl <;> rfl) (by exact Nat.le_of_ble_eq_true rfl) hG rfl (fun X hl hg hX r0 σ0 hR => by subst hl; subst hg; exact jb_Model_space hX hR this p1 p2 hthis)
def jl_Model_swap : List qm_I := [(0, .aload_n 0, 1, 1), (1, .iload_n 1, 1, 2), (2, .invokevirtual 279, 3, 5), (5, .ifCond .eq 16, 3, 8), (8, .aload_n 0, 1, 9), (9, .iload_n 2, 1, 10), (10, .invokevirtual 279, 3, 13), (13, .ifCond .eq 8, 3, 16), (16, .iload_n 1, 1, 17), (17, .iload_n 2, 1, 18), (18, .if_icmp .ne 5, 3, 21), (21, .iconst (-1), 1, 22), (22, .ireturn, 1, 23), (23, .aload_n 0, 1, 24), (24, .invokevirtual 490, 3, 27), (27, .aload_n 0, 1, 28), (28, .iload_n 1, 1, 29), (29, .iload_n 2, 1, 30), (30, .invokevirtual 349, 3, 33), (33, .iconst 1, 1, 34), (34, .ireturn, 1, 35)]
theorem jd_Model_swap : qm_D prog_11_method_107_code jl_Model_swap := qm_D_of (by decide +kernel)
noncomputable def jf_Model_swap (this : Nat) (p1 : Int32) (p2 : Int32) : qm_M Int32 :=
  mB (jf_Model_isBlock this p1) fun x1 =>
  if x1 = 0 then
    mP (-1)
  else
    mB (jf_Model_isBlock this p2) fun x2 =>
    if x2 = 0 then
      mP (-1)
    else
      if ¬ p1 = p2 then
        mB (jf_Model_keepsAct this) fun _ =>
        mB (jf_Model_trades this p1 p2) fun _ =>
        mP 1
      else
        mP (-1)
set_option maxRecDepth 20000 in
set_option maxHeartbeats 4000000 in
theorem jb_Model_swap {X : qm_X} (hX : qm_ok X qr_Model prog_11_method_107_code 3 2 46 jl_Model_swap) {r0 : Int32} {σ0 : qm_Mem} (hR : qm_RI X r0 σ0 .int) (this : Nat) (p1 : Int32) (p2 : Int32) (hthis : (qm_kd this).1 = 19) : qm_B X (jf_Model_swap this p1 p2) 0 [some (.ref (qx_ad X this)), some (.int p1), some (.int p2)] [] (fun r σ1 => r = r0 ∧ σ1 = σ0) := by
  unfold jf_Model_swap
  refine qb_aload_n hX 0 rfl rfl ?_
  refine qb_iload_n hX 1 rfl rfl ?_
  refine qb_callI hX 2 rfl cv_Model_279 (jm_Model_isBlock (qk_GI hX) this p1 hthis ) (ci := 9) hthis ⟨rfl, rfl, rfl, by decide, by decide⟩ rfl (by exact Nat.le_of_ble_eq_true rfl) (fun x1 => ?_)
  refine qb_ifeq hX 3 21 rfl (by decide) ?_ ?_
  ·
    refine qb_iconst hX 11 (-1) rfl (by decide) ?_
    exact qb_iret hX 12 rfl hR (fun _ h => h)
  ·
    refine qb_aload_n hX 4 rfl rfl ?_
    refine qb_iload_n hX 5 rfl rfl ?_
    refine qb_callI hX 6 rfl cv_Model_279 (jm_Model_isBlock (qk_GI hX) this p2 hthis ) (ci := 9) hthis ⟨rfl, rfl, rfl, by decide, by decide⟩ rfl (by exact Nat.le_of_ble_eq_true rfl) (fun x2 => ?_)
    refine qb_ifeq hX 7 21 rfl (by decide) ?_ ?_
    ·
      refine qb_iconst hX 11 (-1) rfl (by decide) ?_
      exact qb_iret hX 12 rfl hR (fun _ h => h)
    ·
      refine qb_iload_n hX 8 rfl rfl ?_
      refine qb_iload_n hX 9 rfl rfl ?_
      refine qb_icne hX 10 23 rfl (by decide) ?_ ?_
      ·
        refine qb_aload_n hX 13 rfl rfl ?_
        refine qb_callV hX 14 rfl cv_Model_490 (jm_Model_keepsAct (qk_GI hX) this  hthis ) (ci := 9) hthis ⟨rfl, rfl, rfl, by decide, by decide⟩ rfl (by exact Nat.le_of_ble_eq_true rfl) ?_
        refine qb_aload_n hX 15 rfl rfl ?_
        refine qb_iload_n hX 16 rfl rfl ?_
        refine qb_iload_n hX 17 rfl rfl ?_
        refine qb_callV hX 18 rfl cv_Model_349 (jm_Model_trades (qk_GI hX) this p1 p2 hthis ) (ci := 9) hthis ⟨rfl, rfl, rfl, by decide, by decide⟩ rfl (by exact Nat.le_of_ble_eq_true rfl) ?_
        refine qb_iconst hX 19 1 rfl (by decide) ?_
        exact qb_iret hX 20 rfl hR (fun _ h => h)
      ·
        refine qb_iconst hX 11 (-1) rfl (by decide) ?_
        exact qb_iret hX 12 rfl hR (fun _ h => h)
theorem jm_Model_swap {l : Launch} {G : qm_G} (hG : qm_GI G) (this : Nat) (p1 : Int32) (p2 : Int32) (hthis : (qm_kd this).1 = 19) : qm_MI l G jy_Model_swap prog_11_method_107_code 3 (some .int) 2 46 [.ref (G.1 this), .int p1, .int p2] (jf_Model_swap this p1 p2) :=
  qm_metI (by decide +kernel) jd_Model_swap (fun v hv => by simp only [List.mem_cons, List.not_mem_nil, or_false] at hv; rcases hv with rfl | rfl | rfl <;> rfl) (by exact Nat.le_of_ble_eq_true rfl) hG rfl (fun X hl hg hX r0 σ0 hR => by subst hl; subst hg; exact jb_Model_swap hX hR this p1 p2 hthis)
def jl_Model_again : List qm_I := [(0, .aload_n 0, 1, 1), (1, .iload_n 1, 1, 2), (2, .invokevirtual 279, 3, 5), (5, .ifCond .ne 5, 3, 8), (8, .iconst (-1), 1, 9), (9, .ireturn, 1, 10), (10, .aload_n 0, 1, 11), (11, .invokevirtual 245, 3, 14), (14, .aload_n 0, 1, 15), (15, .invokevirtual 140, 3, 18), (18, .bipush 16, 2, 20), (20, .if_icmp .eq 19, 3, 23), (23, .aload_n 0, 1, 24), (24, .getfield 148, 3, 27), (27, .aload_n 0, 1, 28), (28, .iload_n 1, 1, 29), (29, .iconst 1, 1, 30), (30, .invokevirtual 144, 3, 33), (33, .iadd, 1, 34), (34, .bipush 90, 2, 36), (36, .if_icmp .le 6, 3, 39), (39, .bipush (-2), 2, 41), (41, .ireturn, 1, 42), (42, .aload_n 0, 1, 43), (43, .invokevirtual 490, 3, 46), (46, .iconst 0, 1, 47), (47, .istore_n 2, 1, 48), (48, .iload_n 2, 1, 49), (49, .bipush 16, 2, 51), (51, .if_icmp .ge 32, 3, 54), (54, .aload_n 0, 1, 55), (55, .getfield 7, 3, 58), (58, .bipush 9, 2, 60), (60, .bipush 16, 2, 62), (62, .aload_n 0, 1, 63), (63, .invokevirtual 140, 3, 66), (66, .imul, 1, 67), (67, .iadd, 1, 68), (68, .iload_n 2, 1, 69), (69, .iadd, 1, 70), (70, .aload_n 0, 1, 71), (71, .iload_n 1, 1, 72), (72, .iload_n 2, 1, 73), (73, .invokevirtual 144, 3, 76), (76, .iastore, 1, 77), (77, .iinc 2 1, 3, 80), (80, .goto (-32), 3, 83), (83, .aload_n 0, 1, 84), (84, .getfield 7, 3, 87), (87, .bipush 8, 2, 89), (89, .dup2, 1, 90), (90, .iaload, 1, 91), (91, .iconst 1, 1, 92), (92, .iadd, 1, 93), (93, .iastore, 1, 94), (94, .aload_n 0, 1, 95), (95, .invokevirtual 140, 3, 98), (98, .ireturn, 1, 99)]
theorem jd_Model_again : qm_D prog_11_method_108_code jl_Model_again := qm_D_of (by decide +kernel)
noncomputable def jf_Model_again (this : Nat) (p1 : Int32) : qm_M Int32 :=
  mB (jf_Model_isBlock this p1) fun x1 =>
  if ¬ x1 = 0 then
    mB (jf_Model_lays this) fun _ =>
    mB (jf_Model_blocks this) fun x2 =>
    if x2 = 16 then
      mP (-2)
    else
      mB (mGt this 13) fun x3 =>
      mB (jf_Model_of this p1 1) fun x4 =>
      if (x3 + x4) ≤ 90 then
        mB (jf_Model_keepsAct this) fun _ =>
        mB (α := Unit) (
          mW (S := Int32) (α := Unit) (fun s6 =>
            if 16 ≤ s6 then
              mP (Sum.inr ())
            else
              mB (jf_Model_blocks this) fun x7 =>
              mB (jf_Model_of this p1 s6) fun x8 =>
              mB (mSt (qm_rf this 0) ((9 + (16 * x7)) + s6) x8) fun _ =>
              mB (mP (s6 + 1)) fun x9 =>
              mP (Sum.inl x9)) 0) fun s5 =>
        mB (mLd (qm_rf this 0) 8) fun x10 =>
        mB (mSt (qm_rf this 0) 8 (x10 + 1)) fun _ =>
        mB (jf_Model_blocks this) fun x11 =>
        mP x11
      else
        mP (-2)
  else
    mP (-1)
set_option maxRecDepth 20000 in
set_option maxHeartbeats 4000000 in
theorem jb_Model_again {X : qm_X} (hX : qm_ok X qr_Model prog_11_method_108_code 3 4 90 jl_Model_again) {r0 : Int32} {σ0 : qm_Mem} (hR : qm_RI X r0 σ0 .int) (this : Nat) (p1 : Int32) (hthis : (qm_kd this).1 = 19) : qm_B X (jf_Model_again this p1) 0 [some (.ref (qx_ad X this)), some (.int p1), none] [] (fun r σ1 => r = r0 ∧ σ1 = σ0) := by
  unfold jf_Model_again
  refine qb_aload_n hX 0 rfl rfl ?_
  refine qb_iload_n hX 1 rfl rfl ?_
  refine qb_callI hX 2 rfl cv_Model_279 (jm_Model_isBlock (qk_GI hX) this p1 hthis ) (ci := 9) hthis ⟨rfl, rfl, rfl, by decide, by decide⟩ rfl (by exact Nat.le_of_ble_eq_true rfl) (fun x1 => ?_)
  refine qb_ifne hX 3 10 rfl (by decide) ?_ ?_
  ·
    refine qb_aload_n hX 6 rfl rfl ?_
    refine qb_callV hX 7 rfl cv_Model_245 (jm_Model_lays (qk_GI hX) this  hthis ) (ci := 9) hthis ⟨rfl, rfl, rfl, by decide, by decide⟩ rfl (by exact Nat.le_of_ble_eq_true rfl) ?_
    refine qb_aload_n hX 8 rfl rfl ?_
    refine qb_callI hX 9 rfl cv_Model_140 (jm_Model_blocks (qk_GI hX) this  hthis ) (ci := 9) hthis ⟨rfl, rfl, rfl, by decide, by decide⟩ rfl (by exact Nat.le_of_ble_eq_true rfl) (fun x2 => ?_)
    refine qb_bipush hX 10 16 rfl (by decide) ?_
    refine qb_iceq hX 11 39 rfl (by decide) ?_ ?_
    ·
      refine qb_bipush hX 21 (-2) rfl (by decide) ?_
      exact qb_iret hX 22 rfl hR (fun _ h => h)
    ·
      refine qb_aload_n hX 12 rfl rfl ?_
      refine qb_get hX 13 rfl fl_Model_148 hthis rfl (fun x3 => ?_)
      refine qb_aload_n hX 14 rfl rfl ?_
      refine qb_iload_n hX 15 rfl rfl ?_
      refine qb_iconst hX 16 1 rfl (by decide) ?_
      refine qb_callI hX 17 rfl cv_Model_144 (jm_Model_of (qk_GI hX) this p1 1 hthis ) (ci := 9) hthis ⟨rfl, rfl, rfl, by decide, by decide⟩ rfl (by exact Nat.le_of_ble_eq_true rfl) (fun x4 => ?_)
      refine qb_iadd hX 18 rfl ?_
      refine qb_bipush hX 19 90 rfl (by decide) ?_
      refine qb_icle hX 20 42 rfl (by decide) ?_ ?_
      ·
        refine qb_aload_n hX 23 rfl rfl ?_
        refine qb_callV hX 24 rfl cv_Model_490 (jm_Model_keepsAct (qk_GI hX) this  hthis ) (ci := 9) hthis ⟨rfl, rfl, rfl, by decide, by decide⟩ rfl (by exact Nat.le_of_ble_eq_true rfl) ?_
        refine qb_iconst hX 25 0 rfl (by decide) ?_
        refine qb_istore_n hX 26 ([some (.ref (qx_ad X this)), some (.int p1), some (.int 0)]) rfl (by decide) rfl ?_
        refine qb_join 83 (fun s5 => [some (.ref (qx_ad X this)), none, none]) (fun s5 => []) ?_ ?_
        ·
          refine qb_loopw (0) (fun s6 => [some (.ref (qx_ad X this)), some (.int p1), some (.int s6)]) (qw_s (qw_s (qw_s (qw_0)))) (fun s6 => ?_)
          refine qb_iload_n hX 27 rfl rfl ?_
          refine qb_bipush hX 28 16 rfl (by decide) ?_
          refine qb_icge hX 29 83 rfl (by decide) ?_ ?_
          ·
            exact qb_exit (fun σ h => qj_wk (ρ' := [some (.ref (qx_ad X this)), none, none]) (qw_s (qw_n (qw_n (qw_0)))) h)
          ·
            refine qb_aload_n hX 30 rfl rfl ?_
            refine qb_getR hX 31 rfl fl_Model_7 hthis rfl ?_
            refine qb_bipush hX 32 9 rfl (by decide) ?_
            refine qb_bipush hX 33 16 rfl (by decide) ?_
            refine qb_aload_n hX 34 rfl rfl ?_
            refine qb_callI hX 35 rfl cv_Model_140 (jm_Model_blocks (qk_GI hX) this  hthis ) (ci := 9) hthis ⟨rfl, rfl, rfl, by decide, by decide⟩ rfl (by exact Nat.le_of_ble_eq_true rfl) (fun x7 => ?_)
            refine qb_imul hX 36 rfl ?_
            refine qb_iadd hX 37 rfl ?_
            refine qb_iload_n hX 38 rfl rfl ?_
            refine qb_iadd hX 39 rfl ?_
            refine qb_aload_n hX 40 rfl rfl ?_
            refine qb_iload_n hX 41 rfl rfl ?_
            refine qb_iload_n hX 42 rfl rfl ?_
            refine qb_callI hX 43 rfl cv_Model_144 (jm_Model_of (qk_GI hX) this p1 s6 hthis ) (ci := 9) hthis ⟨rfl, rfl, rfl, by decide, by decide⟩ rfl (by exact Nat.le_of_ble_eq_true rfl) (fun x8 => ?_)
            refine qb_iast hX 44 rfl (kf_Model_0 hthis) ?_
            refine qb_iinc hX 45 1 (fun x9 => [some (.ref (qx_ad X this)), some (.int p1), some (.int x9)]) rfl (by decide) (by decide) rfl (fun _ => rfl) (fun x9 => ?_)
            exact qb_exit (fun σ h => qj_goto hX 46 rfl (by decide) (qj_wk (ρ' := [some (.ref (qx_ad X this)), some (.int p1), some (.int x9)]) (qw_s (qw_s (qw_s (qw_0)))) h))
        · intro s5
          refine qb_aload_n hX 47 rfl rfl ?_
          refine qb_getR hX 48 rfl fl_Model_7 hthis rfl ?_
          refine qb_bipush hX 49 8 rfl (by decide) ?_
          refine qb_dup2 hX 50 rfl rfl rfl ?_
          refine qb_iald hX 51 rfl (kf_Model_0 hthis) (fun x10 => ?_)
          refine qb_iconst hX 52 1 rfl (by decide) ?_
          refine qb_iadd hX 53 rfl ?_
          refine qb_iast hX 54 rfl (kf_Model_0 hthis) ?_
          refine qb_aload_n hX 55 rfl rfl ?_
          refine qb_callI hX 56 rfl cv_Model_140 (jm_Model_blocks (qk_GI hX) this  hthis ) (ci := 9) hthis ⟨rfl, rfl, rfl, by decide, by decide⟩ rfl (by exact Nat.le_of_ble_eq_true rfl) (fun x11 => ?_)
          exact qb_iret hX 57 rfl hR (fun _ h => h)
      ·
        refine qb_bipush hX 21 (-2) rfl (by decide) ?_
        exact qb_iret hX 22 rfl hR (fun _ h => h)
  ·
    refine qb_iconst hX 4 (-1) rfl (by decide) ?_
    exact qb_iret hX 5 rfl hR (fun _ h => h)
theorem jm_Model_again {l : Launch} {G : qm_G} (hG : qm_GI G) (this : Nat) (p1 : Int32) (hthis : (qm_kd this).1 = 19) : qm_MI l G jy_Model_again prog_11_method_108_code 3 (some .int) 4 90 [.ref (G.1 this), .int p1] (jf_Model_again this p1) :=
  qm_metI (by decide +kernel) jd_Model_again (fun v hv => by simp only [List.mem_cons, List.not_mem_nil, or_false] at hv; rcases hv with rfl | rfl <;> rfl) (by exact Nat.le_of_ble_eq_true rfl) hG rfl (fun X hl hg hX r0 σ0 hR => by subst hl; subst hg; exact jb_Model_again hX hR this p1 hthis)
def jl_Model_drop : List qm_I := [(0, .aload_n 0, 1, 1), (1, .iload_n 1, 1, 2), (2, .invokevirtual 279, 3, 5), (5, .ifCond .ne 5, 3, 8), (8, .iconst (-1), 1, 9), (9, .ireturn, 1, 10), (10, .aload_n 0, 1, 11), (11, .invokevirtual 490, 3, 14), (14, .aload_n 0, 1, 15), (15, .getfield 7, 3, 18), (18, .bipush 8, 2, 20), (20, .dup2, 1, 21), (21, .iaload, 1, 22), (22, .iconst 1, 1, 23), (23, .isub, 1, 24), (24, .iastore, 1, 25), (25, .bipush 9, 2, 27), (27, .bipush 16, 2, 29), (29, .iload_n 1, 1, 30), (30, .imul, 1, 31), (31, .iadd, 1, 32), (32, .istore_n 2, 1, 33), (33, .iload_n 2, 1, 34), (34, .bipush 9, 2, 36), (36, .bipush 16, 2, 38), (38, .aload_n 0, 1, 39), (39, .invokevirtual 140, 3, 42), (42, .imul, 1, 43), (43, .iadd, 1, 44), (44, .if_icmp .ge 24, 3, 47), (47, .aload_n 0, 1, 48), (48, .getfield 7, 3, 51), (51, .iload_n 2, 1, 52), (52, .aload_n 0, 1, 53), (53, .getfield 7, 3, 56), (56, .iload_n 2, 1, 57), (57, .bipush 16, 2, 59), (59, .iadd, 1, 60), (60, .iaload, 1, 61), (61, .iastore, 1, 62), (62, .iinc 2 1, 3, 65), (65, .goto (-32), 3, 68), (68, .aload_n 0, 1, 69), (69, .invokevirtual 140, 3, 72), (72, .ireturn, 1, 73)]
theorem jd_Model_drop : qm_D prog_11_method_109_code jl_Model_drop := qm_D_of (by decide +kernel)
noncomputable def jf_Model_drop (this : Nat) (p1 : Int32) : qm_M Int32 :=
  mB (jf_Model_isBlock this p1) fun x1 =>
  if ¬ x1 = 0 then
    mB (jf_Model_keepsAct this) fun _ =>
    mB (mLd (qm_rf this 0) 8) fun x2 =>
    mB (mSt (qm_rf this 0) 8 (x2 - 1)) fun _ =>
    mB (mP (9 + (16 * p1))) fun x3 =>
    mB (α := Unit) (
      mW (S := Int32) (α := Unit) (fun s5 =>
        mB (jf_Model_blocks this) fun x6 =>
        if (9 + (16 * x6)) ≤ s5 then
          mP (Sum.inr ())
        else
          mB (mLd (qm_rf this 0) (s5 + 16)) fun x7 =>
          mB (mSt (qm_rf this 0) s5 x7) fun _ =>
          mB (mP (s5 + 1)) fun x8 =>
          mP (Sum.inl x8)) x3) fun s4 =>
    mB (jf_Model_blocks this) fun x9 =>
    mP x9
  else
    mP (-1)
set_option maxRecDepth 20000 in
set_option maxHeartbeats 4000000 in
theorem jb_Model_drop {X : qm_X} (hX : qm_ok X qr_Model prog_11_method_109_code 3 2 46 jl_Model_drop) {r0 : Int32} {σ0 : qm_Mem} (hR : qm_RI X r0 σ0 .int) (this : Nat) (p1 : Int32) (hthis : (qm_kd this).1 = 19) : qm_B X (jf_Model_drop this p1) 0 [some (.ref (qx_ad X this)), some (.int p1), none] [] (fun r σ1 => r = r0 ∧ σ1 = σ0) := by
  unfold jf_Model_drop
  refine qb_aload_n hX 0 rfl rfl ?_
  refine qb_iload_n hX 1 rfl rfl ?_
  refine qb_callI hX 2 rfl cv_Model_279 (jm_Model_isBlock (qk_GI hX) this p1 hthis ) (ci := 9) hthis ⟨rfl, rfl, rfl, by decide, by decide⟩ rfl (by exact Nat.le_of_ble_eq_true rfl) (fun x1 => ?_)
  refine qb_ifne hX 3 10 rfl (by decide) ?_ ?_
  ·
    refine qb_aload_n hX 6 rfl rfl ?_
    refine qb_callV hX 7 rfl cv_Model_490 (jm_Model_keepsAct (qk_GI hX) this  hthis ) (ci := 9) hthis ⟨rfl, rfl, rfl, by decide, by decide⟩ rfl (by exact Nat.le_of_ble_eq_true rfl) ?_
    refine qb_aload_n hX 8 rfl rfl ?_
    refine qb_getR hX 9 rfl fl_Model_7 hthis rfl ?_
    refine qb_bipush hX 10 8 rfl (by decide) ?_
    refine qb_dup2 hX 11 rfl rfl rfl ?_
    refine qb_iald hX 12 rfl (kf_Model_0 hthis) (fun x2 => ?_)
    refine qb_iconst hX 13 1 rfl (by decide) ?_
    refine qb_isub hX 14 rfl ?_
    refine qb_iast hX 15 rfl (kf_Model_0 hthis) ?_
    refine qb_bipush hX 16 9 rfl (by decide) ?_
    refine qb_bipush hX 17 16 rfl (by decide) ?_
    refine qb_iload_n hX 18 rfl rfl ?_
    refine qb_imul hX 19 rfl ?_
    refine qb_iadd hX 20 rfl ?_
    refine qb_istore_nL hX 21 (fun x3 => [some (.ref (qx_ad X this)), some (.int p1), some (.int x3)]) rfl (by decide) (fun _ => rfl) (fun x3 => ?_)
    refine qb_join 68 (fun s4 => [some (.ref (qx_ad X this)), none, none]) (fun s4 => []) ?_ ?_
    ·
      refine qb_loopw (x3) (fun s5 => [some (.ref (qx_ad X this)), none, some (.int s5)]) (qw_s (qw_n (qw_s (qw_0)))) (fun s5 => ?_)
      refine qb_iload_n hX 22 rfl rfl ?_
      refine qb_bipush hX 23 9 rfl (by decide) ?_
      refine qb_bipush hX 24 16 rfl (by decide) ?_
      refine qb_aload_n hX 25 rfl rfl ?_
      refine qb_callI hX 26 rfl cv_Model_140 (jm_Model_blocks (qk_GI hX) this  hthis ) (ci := 9) hthis ⟨rfl, rfl, rfl, by decide, by decide⟩ rfl (by exact Nat.le_of_ble_eq_true rfl) (fun x6 => ?_)
      refine qb_imul hX 27 rfl ?_
      refine qb_iadd hX 28 rfl ?_
      refine qb_icge hX 29 68 rfl (by decide) ?_ ?_
      ·
        exact qb_exit (fun σ h => qj_wk (ρ' := [some (.ref (qx_ad X this)), none, none]) (qw_s (qw_n (qw_n (qw_0)))) h)
      ·
        refine qb_aload_n hX 30 rfl rfl ?_
        refine qb_getR hX 31 rfl fl_Model_7 hthis rfl ?_
        refine qb_iload_n hX 32 rfl rfl ?_
        refine qb_aload_n hX 33 rfl rfl ?_
        refine qb_getR hX 34 rfl fl_Model_7 hthis rfl ?_
        refine qb_iload_n hX 35 rfl rfl ?_
        refine qb_bipush hX 36 16 rfl (by decide) ?_
        refine qb_iadd hX 37 rfl ?_
        refine qb_iald hX 38 rfl (kf_Model_0 hthis) (fun x7 => ?_)
        refine qb_iast hX 39 rfl (kf_Model_0 hthis) ?_
        refine qb_iinc hX 40 1 (fun x8 => [some (.ref (qx_ad X this)), none, some (.int x8)]) rfl (by decide) (by decide) rfl (fun _ => rfl) (fun x8 => ?_)
        exact qb_exit (fun σ h => qj_goto hX 41 rfl (by decide) (qj_wk (ρ' := [some (.ref (qx_ad X this)), none, some (.int x8)]) (qw_s (qw_n (qw_s (qw_0)))) h))
    · intro s4
      refine qb_aload_n hX 42 rfl rfl ?_
      refine qb_callI hX 43 rfl cv_Model_140 (jm_Model_blocks (qk_GI hX) this  hthis ) (ci := 9) hthis ⟨rfl, rfl, rfl, by decide, by decide⟩ rfl (by exact Nat.le_of_ble_eq_true rfl) (fun x9 => ?_)
      exact qb_iret hX 44 rfl hR (fun _ h => h)
  ·
    refine qb_iconst hX 4 (-1) rfl (by decide) ?_
    exact qb_iret hX 5 rfl hR (fun _ h => h)
theorem jm_Model_drop {l : Launch} {G : qm_G} (hG : qm_GI G) (this : Nat) (p1 : Int32) (hthis : (qm_kd this).1 = 19) : qm_MI l G jy_Model_drop prog_11_method_109_code 3 (some .int) 2 46 [.ref (G.1 this), .int p1] (jf_Model_drop this p1) :=
  qm_metI (by decide +kernel) jd_Model_drop (fun v hv => by simp only [List.mem_cons, List.not_mem_nil, or_false] at hv; rcases hv with rfl | rfl <;> rfl) (by exact Nat.le_of_ble_eq_true rfl) hG rfl (fun X hl hg hX r0 σ0 hR => by subst hl; subst hg; exact jb_Model_drop hX hR this p1 hthis)
def jl_Model_undo : List qm_I := [(0, .aload_n 0, 1, 1), (1, .getfield 487, 3, 4), (4, .ifCond .ne 5, 3, 7), (7, .iconst (-1), 1, 8), (8, .ireturn, 1, 9), (9, .aload_n 0, 1, 10), (10, .dup, 1, 11), (11, .getfield 487, 3, 14), (14, .iconst 1, 1, 15), (15, .isub, 1, 16), (16, .putfield 487, 3, 19), (19, .iconst 0, 1, 20), (20, .istore_n 1, 1, 21), (21, .iload_n 1, 1, 22), (22, .sipush 265, 3, 25), (25, .if_icmp .ge 30, 3, 28), (28, .aload_n 0, 1, 29), (29, .getfield 7, 3, 32), (32, .iload_n 1, 1, 33), (33, .aload_n 0, 1, 34), (34, .getfield 13, 3, 37), (37, .sipush 265, 3, 40), (40, .aload_n 0, 1, 41), (41, .getfield 487, 3, 44), (44, .imul, 1, 45), (45, .iload_n 1, 1, 46), (46, .iadd, 1, 47), (47, .iaload, 1, 48), (48, .iastore, 1, 49), (49, .iinc 1 1, 3, 52), (52, .goto (-31), 3, 55), (55, .aload_n 0, 1, 56), (56, .getfield 487, 3, 59), (59, .ireturn, 1, 60)]
theorem jd_Model_undo : qm_D prog_11_method_110_code jl_Model_undo := qm_D_of (by decide +kernel)
noncomputable def jf_Model_undo (this : Nat) : qm_M Int32 :=
  mB (mGt this 2) fun x1 =>
  if ¬ x1 = 0 then
    mB (mGt this 2) fun x2 =>
    mB (mPt this 2 (x2 - 1)) fun _ =>
    mB (α := Unit) (
      mW (S := Int32) (α := Unit) (fun s4 =>
        if 265 ≤ s4 then
          mP (Sum.inr ())
        else
          mB (mGt this 2) fun x5 =>
          mB (mLd (qm_rf this 1) ((265 * x5) + s4)) fun x6 =>
          mB (mSt (qm_rf this 0) s4 x6) fun _ =>
          mB (mP (s4 + 1)) fun x7 =>
          mP (Sum.inl x7)) 0) fun s3 =>
    mB (mGt this 2) fun x8 =>
    mP x8
  else
    mP (-1)
set_option maxRecDepth 20000 in
set_option maxHeartbeats 4000000 in
theorem jb_Model_undo {X : qm_X} (hX : qm_ok X qr_Model prog_11_method_110_code 2 0 0 jl_Model_undo) {r0 : Int32} {σ0 : qm_Mem} (hR : qm_RI X r0 σ0 .int) (this : Nat) (hthis : (qm_kd this).1 = 19) : qm_B X (jf_Model_undo this) 0 [some (.ref (qx_ad X this)), none] [] (fun r σ1 => r = r0 ∧ σ1 = σ0) := by
  unfold jf_Model_undo
  refine qb_aload_n hX 0 rfl rfl ?_
  refine qb_get hX 1 rfl fl_Model_487 hthis rfl (fun x1 => ?_)
  refine qb_ifne hX 2 9 rfl (by decide) ?_ ?_
  ·
    refine qb_aload_n hX 5 rfl rfl ?_
    refine qb_dup hX 6 rfl rfl ?_
    refine qb_get hX 7 rfl fl_Model_487 hthis rfl (fun x2 => ?_)
    refine qb_iconst hX 8 1 rfl (by decide) ?_
    refine qb_isub hX 9 rfl ?_
    refine qb_put hX 10 rfl fp_Model_487 hthis ?_
    refine qb_iconst hX 11 0 rfl (by decide) ?_
    refine qb_istore_n hX 12 ([some (.ref (qx_ad X this)), some (.int 0)]) rfl (by decide) rfl ?_
    refine qb_join 55 (fun s3 => [some (.ref (qx_ad X this)), none]) (fun s3 => []) ?_ ?_
    ·
      refine qb_loopw (0) (fun s4 => [some (.ref (qx_ad X this)), some (.int s4)]) (qw_s (qw_s (qw_0))) (fun s4 => ?_)
      refine qb_iload_n hX 13 rfl rfl ?_
      refine qb_sipush hX 14 265 rfl (by decide) ?_
      refine qb_icge hX 15 55 rfl (by decide) ?_ ?_
      ·
        exact qb_exit (fun σ h => qj_wk (ρ' := [some (.ref (qx_ad X this)), none]) (qw_s (qw_n (qw_0))) h)
      ·
        refine qb_aload_n hX 16 rfl rfl ?_
        refine qb_getR hX 17 rfl fl_Model_7 hthis rfl ?_
        refine qb_iload_n hX 18 rfl rfl ?_
        refine qb_aload_n hX 19 rfl rfl ?_
        refine qb_getR hX 20 rfl fl_Model_13 hthis rfl ?_
        refine qb_sipush hX 21 265 rfl (by decide) ?_
        refine qb_aload_n hX 22 rfl rfl ?_
        refine qb_get hX 23 rfl fl_Model_487 hthis rfl (fun x5 => ?_)
        refine qb_imul hX 24 rfl ?_
        refine qb_iload_n hX 25 rfl rfl ?_
        refine qb_iadd hX 26 rfl ?_
        refine qb_iald hX 27 rfl (kf_Model_1 hthis) (fun x6 => ?_)
        refine qb_iast hX 28 rfl (kf_Model_0 hthis) ?_
        refine qb_iinc hX 29 1 (fun x7 => [some (.ref (qx_ad X this)), some (.int x7)]) rfl (by decide) (by decide) rfl (fun _ => rfl) (fun x7 => ?_)
        exact qb_exit (fun σ h => qj_goto hX 30 rfl (by decide) (qj_wk (ρ' := [some (.ref (qx_ad X this)), some (.int x7)]) (qw_s (qw_s (qw_0))) h))
    · intro s3
      refine qb_aload_n hX 31 rfl rfl ?_
      refine qb_get hX 32 rfl fl_Model_487 hthis rfl (fun x8 => ?_)
      exact qb_iret hX 33 rfl hR (fun _ h => h)
  ·
    refine qb_iconst hX 3 (-1) rfl (by decide) ?_
    exact qb_iret hX 4 rfl hR (fun _ h => h)
theorem jm_Model_undo {l : Launch} {G : qm_G} (hG : qm_GI G) (this : Nat) (hthis : (qm_kd this).1 = 19) : qm_MI l G jy_Model_undo prog_11_method_110_code 2 (some .int) 0 0 [.ref (G.1 this)] (jf_Model_undo this) :=
  qm_metI (by decide +kernel) jd_Model_undo (fun v hv => by simp only [List.mem_cons, List.not_mem_nil, or_false] at hv; rcases hv with rfl <;> rfl) (by exact Nat.le_of_ble_eq_true rfl) hG rfl (fun X hl hg hX r0 σ0 hR => by subst hl; subst hg; exact jb_Model_undo hX hR this hthis)
def jl_Model_keep : List qm_I := [(0, .iload_n 1, 1, 1), (1, .i2l, 1, 2), (2, .lconst 0, 1, 3), (3, .lconst 1, 1, 4), (4, .invokestatic 129, 3, 7), (7, .ifCond .ne 5, 3, 10), (10, .iconst (-1), 1, 11), (11, .ireturn, 1, 12), (12, .iconst 0, 1, 13), (13, .istore_n 2, 1, 14), (14, .iload_n 2, 1, 15), (15, .sipush 265, 3, 18), (18, .if_icmp .ge 27, 3, 21), (21, .aload_n 0, 1, 22), (22, .getfield 16, 3, 25), (25, .sipush 265, 3, 28), (28, .iload_n 1, 1, 29), (29, .imul, 1, 30), (30, .iload_n 2, 1, 31), (31, .iadd, 1, 32), (32, .aload_n 0, 1, 33), (33, .getfield 7, 3, 36), (36, .iload_n 2, 1, 37), (37, .iaload, 1, 38), (38, .iastore, 1, 39), (39, .iinc 2 1, 3, 42), (42, .goto (-28), 3, 45), (45, .aload_n 0, 1, 46), (46, .getfield 19, 3, 49), (49, .iload_n 1, 1, 50), (50, .iconst 1, 1, 51), (51, .bastore, 1, 52), (52, .aload_n 0, 1, 53), (53, .invokevirtual 140, 3, 56), (56, .ireturn, 1, 57)]
theorem jd_Model_keep : qm_D prog_11_method_111_code jl_Model_keep := qm_D_of (by decide +kernel)
noncomputable def jf_Model_keep (this : Nat) (p1 : Int32) : qm_M Int32 :=
  mB (jf_Model_in (Int32.toInt64 p1) (0 : Int64) (1 : Int64)) fun x1 =>
  if ¬ x1 = 0 then
    mB (α := Unit) (
      mW (S := Int32) (α := Unit) (fun s3 =>
        if 265 ≤ s3 then
          mP (Sum.inr ())
        else
          mB (mLd (qm_rf this 0) s3) fun x4 =>
          mB (mSt (qm_rf this 3) ((265 * p1) + s3) x4) fun _ =>
          mB (mP (s3 + 1)) fun x5 =>
          mP (Sum.inl x5)) 0) fun s2 =>
    mB (mSz (qm_rf this 4) p1 1) fun _ =>
    mB (jf_Model_blocks this) fun x6 =>
    mP x6
  else
    mP (-1)
set_option maxRecDepth 20000 in
set_option maxHeartbeats 4000000 in
theorem jb_Model_keep {X : qm_X} (hX : qm_ok X qr_Model prog_11_method_111_code 3 1 25 jl_Model_keep) {r0 : Int32} {σ0 : qm_Mem} (hR : qm_RI X r0 σ0 .int) (this : Nat) (p1 : Int32) (hthis : (qm_kd this).1 = 19) : qm_B X (jf_Model_keep this p1) 0 [some (.ref (qx_ad X this)), some (.int p1), none] [] (fun r σ1 => r = r0 ∧ σ1 = σ0) := by
  unfold jf_Model_keep
  refine qb_iload_n hX 0 rfl rfl ?_
  refine qb_i2l hX 1 rfl ?_
  refine qb_lconst hX 2 0 rfl (by decide) ?_
  refine qb_lconst hX 3 1 rfl (by decide) ?_
  refine qb_calSI hX 4 rfl cv_Model_129 (jm_Model_in (qk_GI hX) (Int32.toInt64 p1) (0 : Int64) (1 : Int64) ) ⟨rfl, by decide, by decide⟩ rfl (by exact Nat.le_of_ble_eq_true rfl) (fun x1 => ?_)
  refine qb_ifne hX 5 12 rfl (by decide) ?_ ?_
  ·
    refine qb_iconst hX 8 0 rfl (by decide) ?_
    refine qb_istore_n hX 9 ([some (.ref (qx_ad X this)), some (.int p1), some (.int 0)]) rfl (by decide) rfl ?_
    refine qb_join 45 (fun s2 => [some (.ref (qx_ad X this)), some (.int p1), none]) (fun s2 => []) ?_ ?_
    ·
      refine qb_loopw (0) (fun s3 => [some (.ref (qx_ad X this)), some (.int p1), some (.int s3)]) (qw_s (qw_s (qw_s (qw_0)))) (fun s3 => ?_)
      refine qb_iload_n hX 10 rfl rfl ?_
      refine qb_sipush hX 11 265 rfl (by decide) ?_
      refine qb_icge hX 12 45 rfl (by decide) ?_ ?_
      ·
        exact qb_exit (fun σ h => qj_wk (ρ' := [some (.ref (qx_ad X this)), some (.int p1), none]) (qw_s (qw_s (qw_n (qw_0)))) h)
      ·
        refine qb_aload_n hX 13 rfl rfl ?_
        refine qb_getR hX 14 rfl fl_Model_16 hthis rfl ?_
        refine qb_sipush hX 15 265 rfl (by decide) ?_
        refine qb_iload_n hX 16 rfl rfl ?_
        refine qb_imul hX 17 rfl ?_
        refine qb_iload_n hX 18 rfl rfl ?_
        refine qb_iadd hX 19 rfl ?_
        refine qb_aload_n hX 20 rfl rfl ?_
        refine qb_getR hX 21 rfl fl_Model_7 hthis rfl ?_
        refine qb_iload_n hX 22 rfl rfl ?_
        refine qb_iald hX 23 rfl (kf_Model_0 hthis) (fun x4 => ?_)
        refine qb_iast hX 24 rfl (kf_Model_3 hthis) ?_
        refine qb_iinc hX 25 1 (fun x5 => [some (.ref (qx_ad X this)), some (.int p1), some (.int x5)]) rfl (by decide) (by decide) rfl (fun _ => rfl) (fun x5 => ?_)
        exact qb_exit (fun σ h => qj_goto hX 26 rfl (by decide) (qj_wk (ρ' := [some (.ref (qx_ad X this)), some (.int p1), some (.int x5)]) (qw_s (qw_s (qw_s (qw_0)))) h))
    · intro s2
      refine qb_aload_n hX 27 rfl rfl ?_
      refine qb_getR hX 28 rfl fl_Model_19 hthis rfl ?_
      refine qb_iload_n hX 29 rfl rfl ?_
      refine qb_iconst hX 30 1 rfl (by decide) ?_
      refine qb_zast hX 31 rfl (kf_Model_4 hthis) ?_
      refine qb_aload_n hX 32 rfl rfl ?_
      refine qb_callI hX 33 rfl cv_Model_140 (jm_Model_blocks (qk_GI hX) this  hthis ) (ci := 9) hthis ⟨rfl, rfl, rfl, by decide, by decide⟩ rfl (by exact Nat.le_of_ble_eq_true rfl) (fun x6 => ?_)
      exact qb_iret hX 34 rfl hR (fun _ h => h)
  ·
    refine qb_iconst hX 6 (-1) rfl (by decide) ?_
    exact qb_iret hX 7 rfl hR (fun _ h => h)
theorem jm_Model_keep {l : Launch} {G : qm_G} (hG : qm_GI G) (this : Nat) (p1 : Int32) (hthis : (qm_kd this).1 = 19) : qm_MI l G jy_Model_keep prog_11_method_111_code 3 (some .int) 1 25 [.ref (G.1 this), .int p1] (jf_Model_keep this p1) :=
  qm_metI (by decide +kernel) jd_Model_keep (fun v hv => by simp only [List.mem_cons, List.not_mem_nil, or_false] at hv; rcases hv with rfl | rfl <;> rfl) (by exact Nat.le_of_ble_eq_true rfl) hG rfl (fun X hl hg hX r0 σ0 hR => by subst hl; subst hg; exact jb_Model_keep hX hR this p1 hthis)
