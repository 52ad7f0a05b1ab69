def jl_Model_roomOf : List qm_I := [(0, .iload_n 3, 1, 1), (1, .aload_n 0, 1, 2), (2, .iload_n 1, 1, 3), (3, .iload_n 2, 1, 4), (4, .invokevirtual 169, 3, 7), (7, .isub, 1, 8), (8, .aload_n 0, 1, 9), (9, .getfield 7, 3, 12), (12, .bipush 6, 2, 14), (14, .iaload, 1, 15), (15, .isub, 1, 16), (16, .istore 4, 2, 18), (18, .iload 4, 2, 20), (20, .ifCond .ge 7, 3, 23), (23, .iconst 0, 1, 24), (24, .goto 12, 3, 27), (27, .iload 4, 2, 29), (29, .aload_n 0, 1, 30), (30, .getfield 7, 3, 33), (33, .iconst 5, 1, 34), (34, .iaload, 1, 35), (35, .idiv, 1, 36), (36, .ireturn, 1, 37)]
theorem jd_Model_roomOf : qm_D prog_11_method_19_code jl_Model_roomOf := qm_D_of (by decide +kernel)
noncomputable def jf_Model_roomOf (this : Nat) (p1 : Int32) (p2 : Int32) (p3 : Int32) : qm_M Int32 :=
  mB (jf_Model_textOf this p1 p2) fun x1 =>
  mB (mLd (qm_rf this 0) 6) fun x2 =>
  mB (mP ((p3 - x1) - x2)) fun x3 =>
  if 0 ≤ x3 then
    mB (mLd (qm_rf this 0) 5) fun x4 =>
    mB (mDv x3 x4) fun x5 =>
    mP x5
  else
    mP 0
set_option maxRecDepth 20000 in
set_option maxHeartbeats 4000000 in
theorem jb_Model_roomOf {X : qm_X} (hX : qm_ok X qr_Model prog_11_method_19_code 5 2 45 jl_Model_roomOf) {r0 : Int32} {σ0 : qm_Mem} (hR : qm_RI X r0 σ0 .int) (this : Nat) (p1 : Int32) (p2 : Int32) (p3 : Int32) (hthis : (qm_kd this).1 = 19) : qm_B X (jf_Model_roomOf this p1 p2 p3) 0 [some (.ref (qx_ad X this)), some (.int p1), some (.int p2), some (.int p3), none] [] (fun r σ1 => r = r0 ∧ σ1 = σ0) := by
  unfold jf_Model_roomOf
  refine qb_iload_n hX 0 rfl rfl ?_
  refine qb_aload_n hX 1 rfl rfl ?_
  refine qb_iload_n hX 2 rfl rfl ?_
  refine qb_iload_n hX 3 rfl rfl ?_
  refine qb_callI hX 4 rfl cv_Model_169 (jm_Model_textOf (qk_GI hX) this p1 p2 hthis ) (ci := 9) hthis ⟨rfl, rfl, rfl, by decide, by decide⟩ rfl (by exact Nat.le_of_ble_eq_true rfl) (fun x1 => ?_)
  refine qb_isub hX 5 rfl ?_
  refine qb_aload_n hX 6 rfl rfl ?_
  refine qb_getR hX 7 rfl fl_Model_7 hthis rfl ?_
  refine qb_bipush hX 8 6 rfl (by decide) ?_
  refine qb_iald hX 9 rfl (kf_Model_0 hthis) (fun x2 => ?_)
  refine qb_isub hX 10 rfl ?_
  refine qb_istoreL hX 11 (fun x3 => [some (.ref (qx_ad X this)), some (.int p1), some (.int p2), some (.int p3), some (.int x3)]) rfl (by decide) (fun _ => rfl) (fun x3 => ?_)
  refine qb_iload hX 12 rfl rfl ?_
  refine qb_ifge hX 13 27 rfl (by decide) ?_ ?_
  ·
    refine qb_iload hX 16 rfl rfl ?_
    refine qb_aload_n hX 17 rfl rfl ?_
    refine qb_getR hX 18 rfl fl_Model_7 hthis rfl ?_
    refine qb_iconst hX 19 5 rfl (by decide) ?_
    refine qb_iald hX 20 rfl (kf_Model_0 hthis) (fun x4 => ?_)
    refine qb_idiv hX 21 rfl (fun x5 => ?_)
    exact qb_iret hX 22 rfl hR (fun _ h => h)
  ·
    refine qb_iconst hX 14 0 rfl (by decide) ?_
    refine qb_goto hX 15 (tgt := 36) rfl (by decide) ?_
    exact qb_iret hX 22 rfl hR (fun _ h => h)
theorem jm_Model_roomOf {l : Launch} {G : qm_G} (hG : qm_GI G) (this : Nat) (p1 : Int32) (p2 : Int32) (p3 : Int32) (hthis : (qm_kd this).1 = 19) : qm_MI l G jy_Model_roomOf prog_11_method_19_code 5 (some .int) 2 45 [.ref (G.1 this), .int p1, .int p2, .int p3] (jf_Model_roomOf this p1 p2 p3) :=
  qm_metI (by decide +kernel) jd_Model_roomOf (fun v hv => by simp only [List.mem_cons, List.not_mem_nil, or_false] at hv; rcases hv with rfl | rfl | rfl | rfl <;> rfl) (by exact Nat.le_of_ble_eq_true rfl) hG rfl (fun X hl hg hX r0 σ0 hR => by subst hl; subst hg; exact jb_Model_roomOf hX hR this p1 p2 p3 hthis)
def jl_Model_canEnd : List qm_I := [(0, .aload_n 0, 1, 1), (1, .iload_n 1, 1, 2), (2, .iload_n 2, 1, 3), (3, .invokevirtual 172, 3, 6), (6, .istore 5, 2, 8), (8, .aload_n 0, 1, 9), (9, .iload_n 1, 1, 10), (10, .iload_n 2, 1, 11), (11, .invokevirtual 169, 3, 14), (14, .iload 5, 2, 16), (16, .iload_n 3, 1, 17), (17, .iadd, 1, 18), (18, .ifCond .le 13, 3, 21), (21, .aload_n 0, 1, 22), (22, .getfield 7, 3, 25), (25, .bipush 6, 2, 27), (27, .iaload, 1, 28), (28, .goto 4, 3, 31), (31, .iconst 0, 1, 32), (32, .iadd, 1, 33), (33, .iload 4, 2, 35), (35, .if_icmp .le 5, 3, 38), (38, .iconst 0, 1, 39), (39, .ireturn, 1, 40), (40, .aload_n 0, 1, 41), (41, .iload_n 1, 1, 42), (42, .iload_n 2, 1, 43), (43, .iload 4, 2, 45), (45, .invokevirtual 175, 3, 48), (48, .istore 6, 2, 50), (50, .iload 5, 2, 52), (52, .ifCond .le 29, 3, 55), (55, .iload_n 3, 1, 56), (56, .iload 5, 2, 58), (58, .iadd, 1, 59), (59, .aload_n 0, 1, 60), (60, .getfield 65, 3, 63), (63, .iload_n 2, 1, 64), (64, .iaload, 1, 65), (65, .isub, 1, 66), (66, .iconst 1, 1, 67), (67, .iadd, 1, 68), (68, .iload 6, 2, 70), (70, .if_icmp .gt 7, 3, 73), (73, .iconst 1, 1, 74), (74, .goto 22, 3, 77), (77, .iconst 0, 1, 78), (78, .goto 18, 3, 81), (81, .iload_n 3, 1, 82), (82, .ifCond .eq 9, 3, 85), (85, .iload 6, 2, 87), (87, .iconst 1, 1, 88), (88, .if_icmp .lt 7, 3, 91), (91, .iconst 1, 1, 92), (92, .goto 4, 3, 95), (95, .iconst 0, 1, 96), (96, .ireturn, 1, 97)]
theorem jd_Model_canEnd : qm_D prog_11_method_20_code jl_Model_canEnd := qm_D_of (by decide +kernel)
noncomputable def jf_Model_canEnd (this : Nat) (p1 : Int32) (p2 : Int32) (p3 : Int32) (p4 : Int32) : qm_M Int32 :=
  mB (jf_Model_ownOf this p1 p2) fun x1 =>
  mB (jf_Model_textOf this p1 p2) fun x2 =>
  mB (α := Int32) (
    if (x1 + p3) ≤ 0 then
      mP 0
    else
      mB (mLd (qm_rf this 0) 6) fun x4 =>
      mP x4) fun s3 =>
  if (x2 + s3) ≤ p4 then
    mB (jf_Model_roomOf this p1 p2 p4) fun x5 =>
    if x1 ≤ 0 then
      if p3 = 0 then
        mP 1
      else
        if x5 < 1 then
          mP 0
        else
          mP 1
    else
      mB (mLd (qm_rf this 21) p2) fun x6 =>
      if x5 < (((p3 + x1) - x6) + 1) then
        mP 0
      else
        mP 1
  else
    mP 0
set_option maxRecDepth 20000 in
set_option maxHeartbeats 4000000 in
theorem jb_Model_canEnd {X : qm_X} (hX : qm_ok X qr_Model prog_11_method_20_code 7 3 69 jl_Model_canEnd) {r0 : Int32} {σ0 : qm_Mem} (hR : qm_RI X r0 σ0 .boolean) (this : Nat) (p1 : Int32) (p2 : Int32) (p3 : Int32) (p4 : Int32) (hthis : (qm_kd this).1 = 19) : qm_B X (jf_Model_canEnd this p1 p2 p3 p4) 0 [some (.ref (qx_ad X this)), some (.int p1), some (.int p2), some (.int p3), some (.int p4), none, none] [] (fun r σ1 => r = r0 ∧ σ1 = σ0) := by
  unfold jf_Model_canEnd
  refine qb_aload_n hX 0 rfl rfl ?_
  refine qb_iload_n hX 1 rfl rfl ?_
  refine qb_iload_n hX 2 rfl rfl ?_
  refine qb_callI hX 3 rfl cv_Model_172 (jm_Model_ownOf (qk_GI hX) this p1 p2 hthis ) (ci := 9) hthis ⟨rfl, rfl, rfl, by decide, by decide⟩ rfl (by exact Nat.le_of_ble_eq_true rfl) (fun x1 => ?_)
  refine qb_istore hX 4 ([some (.ref (qx_ad X this)), some (.int p1), some (.int p2), some (.int p3), some (.int p4), some (.int x1), none]) rfl (by decide) rfl ?_
  refine qb_aload_n hX 5 rfl rfl ?_
  refine qb_iload_n hX 6 rfl rfl ?_
  refine qb_iload_n hX 7 rfl rfl ?_
  refine qb_callI hX 8 rfl cv_Model_169 (jm_Model_textOf (qk_GI hX) this p1 p2 hthis ) (ci := 9) hthis ⟨rfl, rfl, rfl, by decide, by decide⟩ rfl (by exact Nat.le_of_ble_eq_true rfl) (fun x2 => ?_)
  refine qb_iload hX 9 rfl rfl ?_
  refine qb_iload_n hX 10 rfl rfl ?_
  refine qb_iadd hX 11 rfl ?_
  refine qb_join 32 (fun s3 => [some (.ref (qx_ad X this)), some (.int p1), some (.int p2), some (.int p3), some (.int p4), some (.int x1), none]) (fun s3 => [.int s3, .int x2]) ?_ ?_
  ·
    refine qb_ifle hX 12 31 rfl (by decide) ?_ ?_
    ·
      refine qb_iconst hX 18 0 rfl (by decide) ?_
      exact qb_exit (fun σ h => qj_wk (ρ' := [some (.ref (qx_ad X this)), some (.int p1), some (.int p2), some (.int p3), some (.int p4), some (.int x1), none]) (qw_s (qw_s (qw_s (qw_s (qw_s (qw_s (qw_n (qw_0)))))))) h)
    ·
      refine qb_aload_n hX 13 rfl rfl ?_
      refine qb_getR hX 14 rfl fl_Model_7 hthis rfl ?_
      refine qb_bipush hX 15 6 rfl (by decide) ?_
      refine qb_iald hX 16 rfl (kf_Model_0 hthis) (fun x4 => ?_)
      exact qb_exit (fun σ h => qj_goto hX 17 rfl (by decide) (qj_wk (ρ' := [some (.ref (qx_ad X this)), some (.int p1), some (.int p2), some (.int p3), some (.int p4), some (.int x1), none]) (qw_s (qw_s (qw_s (qw_s (qw_s (qw_s (qw_n (qw_0)))))))) h))
  · intro s3
    refine qb_iadd hX 19 rfl ?_
    refine qb_iload hX 20 rfl rfl ?_
    refine qb_icle hX 21 40 rfl (by decide) ?_ ?_
    ·
      refine qb_aload_n hX 24 rfl rfl ?_
      refine qb_iload_n hX 25 rfl rfl ?_
      refine qb_iload_n hX 26 rfl rfl ?_
      refine qb_iload hX 27 rfl rfl ?_
      refine qb_callI hX 28 rfl cv_Model_175 (jm_Model_roomOf (qk_GI hX) this p1 p2 p4 hthis ) (ci := 9) hthis ⟨rfl, rfl, rfl, by decide, by decide⟩ rfl (by exact Nat.le_of_ble_eq_true rfl) (fun x5 => ?_)
      refine qb_istore hX 29 ([some (.ref (qx_ad X this)), some (.int p1), some (.int p2), some (.int p3), some (.int p4), some (.int x1), some (.int x5)]) rfl (by decide) rfl ?_
      refine qb_iload hX 30 rfl rfl ?_
      refine qb_ifle hX 31 81 rfl (by decide) ?_ ?_
      ·
        refine qb_iload_n hX 48 rfl rfl ?_
        refine qb_ifeq hX 49 91 rfl (by decide) ?_ ?_
        ·
          refine qb_iconst hX 53 1 rfl (by decide) ?_
          refine qb_goto hX 54 (tgt := 96) rfl (by decide) ?_
          exact qb_zret1 hX 56 rfl hR (by decide) (fun _ h => h)
        ·
          refine qb_iload hX 50 rfl rfl ?_
          refine qb_iconst hX 51 1 rfl (by decide) ?_
          refine qb_iclt hX 52 95 rfl (by decide) ?_ ?_
          ·
            refine qb_iconst hX 55 0 rfl (by decide) ?_
            exact qb_zret1 hX 56 rfl hR (by decide) (fun _ h => h)
          ·
            refine qb_iconst hX 53 1 rfl (by decide) ?_
            refine qb_goto hX 54 (tgt := 96) rfl (by decide) ?_
            exact qb_zret1 hX 56 rfl hR (by decide) (fun _ h => h)
      ·
        refine qb_iload_n hX 32 rfl rfl ?_
        refine qb_iload hX 33 rfl rfl ?_
        refine qb_iadd hX 34 rfl ?_
        refine qb_aload_n hX 35 rfl rfl ?_
        refine qb_getR hX 36 rfl fl_Model_65 hthis rfl ?_
        refine qb_iload_n hX 37 rfl rfl ?_
        refine qb_iald hX 38 rfl (kf_Model_21 hthis) (fun x6 => ?_)
        refine qb_isub hX 39 rfl ?_
        refine qb_iconst hX 40 1 rfl (by decide) ?_
        refine qb_iadd hX 41 rfl ?_
        refine qb_iload hX 42 rfl rfl ?_
        refine qb_icgt hX 43 77 rfl (by decide) ?_ ?_
        ·
          refine qb_iconst hX 46 0 rfl (by decide) ?_
          refine qb_goto hX 47 (tgt := 96) rfl (by decide) ?_
          exact qb_zret1 hX 56 rfl hR (by decide) (fun _ h => h)
        ·
          refine qb_iconst hX 44 1 rfl (by decide) ?_
          refine qb_goto hX 45 (tgt := 96) rfl (by decide) ?_
          exact qb_zret1 hX 56 rfl hR (by decide) (fun _ h => h)
    ·
      refine qb_iconst hX 22 0 rfl (by decide) ?_
      exact qb_zret1 hX 23 rfl hR (by decide) (fun _ h => h)
theorem jm_Model_canEnd {l : Launch} {G : qm_G} (hG : qm_GI G) (this : Nat) (p1 : Int32) (p2 : Int32) (p3 : Int32) (p4 : Int32) (hthis : (qm_kd this).1 = 19) : qm_MI l G jy_Model_canEnd prog_11_method_20_code 7 (some .boolean) 3 69 [.ref (G.1 this), .int p1, .int p2, .int p3, .int p4] (jf_Model_canEnd this p1 p2 p3 p4) :=
  qm_metI (by decide +kernel) jd_Model_canEnd (fun v hv => by simp only [List.mem_cons, List.not_mem_nil, or_false] at hv; rcases hv with rfl | rfl | rfl | rfl | rfl <;> rfl) (by exact Nat.le_of_ble_eq_true rfl) hG rfl (fun X hl hg hX r0 σ0 hR => by subst hl; subst hg; exact jb_Model_canEnd hX hR this p1 p2 p3 p4 hthis)
def jl_Model_standsOf : List qm_I := [(0, .aload_n 0, 1, 1), (1, .iload_n 1, 1, 2), (2, .iload_n 2, 1, 3), (3, .invokevirtual 172, 3, 6), (6, .iload_n 3, 1, 7), (7, .iadd, 1, 8), (8, .istore 5, 2, 10), (10, .iload 5, 2, 12), (12, .ifCond .ne 7, 3, 15), (15, .iconst 0, 1, 16), (16, .goto 11, 3, 19), (19, .aload_n 0, 1, 20), (20, .iload_n 1, 1, 21), (21, .iload_n 2, 1, 22), (22, .iload 4, 2, 24), (24, .invokevirtual 175, 3, 27), (27, .istore 6, 2, 29), (29, .iload 5, 2, 31), (31, .iload 6, 2, 33), (33, .if_icmp .ge 8, 3, 36), (36, .iload 5, 2, 38), (38, .goto 5, 3, 41), (41, .iload 6, 2, 43), (43, .ireturn, 1, 44)]
theorem jd_Model_standsOf : qm_D prog_11_method_21_code jl_Model_standsOf := qm_D_of (by decide +kernel)
noncomputable def jf_Model_standsOf (this : Nat) (p1 : Int32) (p2 : Int32) (p3 : Int32) (p4 : Int32) : qm_M Int32 :=
  mB (jf_Model_ownOf this p1 p2) fun x1 =>
  mB (mP (x1 + p3)) fun x2 =>
  mB (α := Int32) (
    if ¬ x2 = 0 then
      mB (jf_Model_roomOf this p1 p2 p4) fun x4 =>
      mP x4
    else
      mP 0) fun s3 =>
  if s3 ≤ x2 then
    mP s3
  else
    mP x2
set_option maxRecDepth 20000 in
set_option maxHeartbeats 4000000 in
theorem jb_Model_standsOf {X : qm_X} (hX : qm_ok X qr_Model prog_11_method_21_code 7 3 69 jl_Model_standsOf) {r0 : Int32} {σ0 : qm_Mem} (hR : qm_RI X r0 σ0 .int) (this : Nat) (p1 : Int32) (p2 : Int32) (p3 : Int32) (p4 : Int32) (hthis : (qm_kd this).1 = 19) : qm_B X (jf_Model_standsOf this p1 p2 p3 p4) 0 [some (.ref (qx_ad X this)), some (.int p1), some (.int p2), some (.int p3), some (.int p4), none, none] [] (fun r σ1 => r = r0 ∧ σ1 = σ0) := by
  unfold jf_Model_standsOf
  refine qb_aload_n hX 0 rfl rfl ?_
  refine qb_iload_n hX 1 rfl rfl ?_
  refine qb_iload_n hX 2 rfl rfl ?_
  refine qb_callI hX 3 rfl cv_Model_172 (jm_Model_ownOf (qk_GI hX) this p1 p2 hthis ) (ci := 9) hthis ⟨rfl, rfl, rfl, by decide, by decide⟩ rfl (by exact Nat.le_of_ble_eq_true rfl) (fun x1 => ?_)
  refine qb_iload_n hX 4 rfl rfl ?_
  refine qb_iadd hX 5 rfl ?_
  refine qb_istoreL hX 6 (fun x2 => [some (.ref (qx_ad X this)), some (.int p1), some (.int p2), some (.int p3), some (.int p4), some (.int x2), none]) rfl (by decide) (fun _ => rfl) (fun x2 => ?_)
  refine qb_iload hX 7 rfl rfl ?_
  refine qb_join 27 (fun s3 => [none, none, none, none, none, some (.int x2), none]) (fun s3 => [.int s3]) ?_ ?_
  ·
    refine qb_ifne hX 8 19 rfl (by decide) ?_ ?_
    ·
      refine qb_aload_n hX 11 rfl rfl ?_
      refine qb_iload_n hX 12 rfl rfl ?_
      refine qb_iload_n hX 13 rfl rfl ?_
      refine qb_iload hX 14 rfl rfl ?_
      refine qb_callI hX 15 rfl cv_Model_175 (jm_Model_roomOf (qk_GI hX) this p1 p2 p4 hthis ) (ci := 9) hthis ⟨rfl, rfl, rfl, by decide, by decide⟩ rfl (by exact Nat.le_of_ble_eq_true rfl) (fun x4 => ?_)
      exact qb_exit (fun σ h => qj_wk (ρ' := [none, none, none, none, none, some (.int x2), none]) (qw_n (qw_n (qw_n (qw_n (qw_n (qw_s (qw_n (qw_0)))))))) h)
    ·
      refine qb_iconst hX 9 0 rfl (by decide) ?_
      exact qb_exit (fun σ h => qj_goto hX 10 rfl (by decide) (qj_wk (ρ' := [none, none, none, none, none, some (.int x2), none]) (qw_n (qw_n (qw_n (qw_n (qw_n (qw_s (qw_n (qw_0)))))))) h))
  · intro s3
    refine qb_istore hX 16 ([none, none, none, none, none, some (.int x2), some (.int s3)]) rfl (by decide) rfl ?_
    refine qb_iload hX 17 rfl rfl ?_
    refine qb_iload hX 18 rfl rfl ?_
    refine qb_icge hX 19 41 rfl (by decide) ?_ ?_
    ·
      refine qb_iload hX 22 rfl rfl ?_
      exact qb_iret hX 23 rfl hR (fun _ h => h)
    ·
      refine qb_iload hX 20 rfl rfl ?_
      refine qb_goto hX 21 (tgt := 43) rfl (by decide) ?_
      exact qb_iret hX 23 rfl hR (fun _ h => h)
theorem jm_Model_standsOf {l : Launch} {G : qm_G} (hG : qm_GI G) (this : Nat) (p1 : Int32) (p2 : Int32) (p3 : Int32) (p4 : Int32) (hthis : (qm_kd this).1 = 19) : qm_MI l G jy_Model_standsOf prog_11_method_21_code 7 (some .int) 3 69 [.ref (G.1 this), .int p1, .int p2, .int p3, .int p4] (jf_Model_standsOf this p1 p2 p3 p4) :=
  qm_metI (by decide +kernel) jd_Model_standsOf (fun v hv => by simp only [List.mem_cons, List.not_mem_nil, or_false] at hv; rcases hv with rfl | rfl | rfl | rfl | rfl <;> rfl) (by exact Nat.le_of_ble_eq_true rfl) hG rfl (fun X hl hg hX r0 σ0 hR => by subst hl; subst hg; exact jb_Model_standsOf hX hR this p1 p2 p3 p4 hthis)
def jl_Model_mostInto : List qm_I := [(0, .aload_n 0, 1, 1), (1, .iload_n 1, 1, 2), (2, .iload_n 2, 1, 3), (3, .invokevirtual 172, 3, 6), (6, .istore 5, 2, 8), (8, .aload_n 0, 1, 9), (9, .iload_n 1, 1, 10), (10, .iload_n 2, 1, 11), (11, .invokevirtual 169, 3, 14), (14, .istore 6, 2, 16), (16, .iload 6, 2, 18), (18, .iload 5, 2, 20), (20, .ifCond .le 13, 3, 23), (23, .aload_n 0, 1, 24), (24, .getfield 7, 3, 27), (27, .bipush 6, 2, 29), (29, .iaload, 1, 30), (30, .goto 4, 3, 33), (33, .iconst 0, 1, 34), (34, .iadd, 1, 35), (35, .iload 4, 2, 37), (37, .if_icmp .le 5, 3, 40), (40, .iconst (-1), 1, 41), (41, .ireturn, 1, 42), (42, .iload 6, 2, 44), (44, .aload_n 0, 1, 45), (45, .getfield 7, 3, 48), (48, .bipush 6, 2, 50), (50, .iaload, 1, 51), (51, .iadd, 1, 52), (52, .iload 4, 2, 54), (54, .if_icmp .le 7, 3, 57), (57, .iconst 0, 1, 58), (58, .goto 11, 3, 61), (61, .aload_n 0, 1, 62), (62, .iload_n 1, 1, 63), (63, .iload_n 2, 1, 64), (64, .iload 4, 2, 66), (66, .invokevirtual 175, 3, 69), (69, .istore 7, 2, 71), (71, .iload 5, 2, 73), (73, .ifCond .ne 18, 3, 76), (76, .iload 7, 2, 78), (78, .iconst 1, 1, 79), (79, .if_icmp .lt 10, 3, 82), (82, .iload 7, 2, 84), (84, .iload_n 3, 1, 85), (85, .iadd, 1, 86), (86, .goto 4, 3, 89), (89, .iconst 0, 1, 90), (90, .ireturn, 1, 91), (91, .iload 7, 2, 93), (93, .iload 5, 2, 95), (95, .isub, 1, 96), (96, .aload_n 0, 1, 97), (97, .getfield 65, 3, 100), (100, .iload_n 2, 1, 101), (101, .iaload, 1, 102), (102, .iadd, 1, 103), (103, .iconst 1, 1, 104), (104, .isub, 1, 105), (105, .istore 8, 2, 107), (107, .iload 7, 2, 109), (109, .iload 5, 2, 111), (111, .isub, 1, 112), (112, .iload_n 3, 1, 113), (113, .iadd, 1, 114), (114, .istore 9, 2, 116), (116, .iload 8, 2, 118), (118, .iload 9, 2, 120), (120, .if_icmp .ge 8, 3, 123), (123, .iload 8, 2, 125), (125, .goto 5, 3, 128), (128, .iload 9, 2, 130), (130, .ireturn, 1, 131)]
theorem jd_Model_mostInto : qm_D prog_11_method_22_code jl_Model_mostInto := qm_D_of (by decide +kernel)
noncomputable def jf_Model_mostInto (this : Nat) (p1 : Int32) (p2 : Int32) (p3 : Int32) (p4 : Int32) : qm_M Int32 :=
  mB (jf_Model_ownOf this p1 p2) fun x1 =>
  mB (jf_Model_textOf this p1 p2) fun x2 =>
  mB (α := Int32) (
    if x1 ≤ 0 then
      mP 0
    else
      mB (mLd (qm_rf this 0) 6) fun x4 =>
      mP x4) fun s3 =>
  if (x2 + s3) ≤ p4 then
    mB (mLd (qm_rf this 0) 6) fun x5 =>
    mB (α := Int32) (
      if (x2 + x5) ≤ p4 then
        mB (jf_Model_roomOf this p1 p2 p4) fun x7 =>
        mP x7
      else
        mP 0) fun s6 =>
    if ¬ x1 = 0 then
      mB (mLd (qm_rf this 21) p2) fun x8 =>
      mB (mP (((s6 - x1) + x8) - 1)) fun x9 =>
      mB (mP ((s6 - x1) + p3)) fun x10 =>
      if x10 ≤ x9 then
        mP x10
      else
        mP x9
    else
      if s6 < 1 then
        mP 0
      else
        mP (s6 + p3)
  else
    mP (-1)
set_option maxRecDepth 20000 in
set_option maxHeartbeats 4000000 in
theorem jb_Model_mostInto {X : qm_X} (hX : qm_ok X qr_Model prog_11_method_22_code 10 3 69 jl_Model_mostInto) {r0 : Int32} {σ0 : qm_Mem} (hR : qm_RI X r0 σ0 .int) (this : Nat) (p1 : Int32) (p2 : Int32) (p3 : Int32) (p4 : Int32) (hthis : (qm_kd this).1 = 19) : qm_B X (jf_Model_mostInto this p1 p2 p3 p4) 0 [some (.ref (qx_ad X this)), some (.int p1), some (.int p2), some (.int p3), some (.int p4), none, none, none, none, none] [] (fun r σ1 => r = r0 ∧ σ1 = σ0) := by
  unfold jf_Model_mostInto
  refine qb_aload_n hX 0 rfl rfl ?_
  refine qb_iload_n hX 1 rfl rfl ?_
  refine qb_iload_n hX 2 rfl rfl ?_
  refine qb_callI hX 3 rfl cv_Model_172 (jm_Model_ownOf (qk_GI hX) this p1 p2 hthis ) (ci := 9) hthis ⟨rfl, rfl, rfl, by decide, by decide⟩ rfl (by exact Nat.le_of_ble_eq_true rfl) (fun x1 => ?_)
  refine qb_istore hX 4 ([some (.ref (qx_ad X this)), some (.int p1), some (.int p2), some (.int p3), some (.int p4), some (.int x1), none, none, none, none]) rfl (by decide) rfl ?_
  refine qb_aload_n hX 5 rfl rfl ?_
  refine qb_iload_n hX 6 rfl rfl ?_
  refine qb_iload_n hX 7 rfl rfl ?_
  refine qb_callI hX 8 rfl cv_Model_169 (jm_Model_textOf (qk_GI hX) this p1 p2 hthis ) (ci := 9) hthis ⟨rfl, rfl, rfl, by decide, by decide⟩ rfl (by exact Nat.le_of_ble_eq_true rfl) (fun x2 => ?_)
  refine qb_istore hX 9 ([some (.ref (qx_ad X this)), some (.int p1), some (.int p2), some (.int p3), some (.int p4), some (.int x1), some (.int x2), none, none, none]) rfl (by decide) rfl ?_
  refine qb_iload hX 10 rfl rfl ?_
  refine qb_iload hX 11 rfl rfl ?_
  refine qb_join 34 (fun s3 => [some (.ref (qx_ad X this)), some (.int p1), some (.int p2), some (.int p3), some (.int p4), some (.int x1), some (.int x2), none, none, none]) (fun s3 => [.int s3, .int x2]) ?_ ?_
  ·
    refine qb_ifle hX 12 33 rfl (by decide) ?_ ?_
    ·
      refine qb_iconst hX 18 0 rfl (by decide) ?_
      exact qb_exit (fun σ h => qj_wk (ρ' := [some (.ref (qx_ad X this)), some (.int p1), some (.int p2), some (.int p3), some (.int p4), some (.int x1), some (.int x2), none, none, none]) (qw_s (qw_s (qw_s (qw_s (qw_s (qw_s (qw_s (qw_n (qw_n (qw_n (qw_0))))))))))) h)
    ·
      refine qb_aload_n hX 13 rfl rfl ?_
      refine qb_getR hX 14 rfl fl_Model_7 hthis rfl ?_
      refine qb_bipush hX 15 6 rfl (by decide) ?_
      refine qb_iald hX 16 rfl (kf_Model_0 hthis) (fun x4 => ?_)
      exact qb_exit (fun σ h => qj_goto hX 17 rfl (by decide) (qj_wk (ρ' := [some (.ref (qx_ad X this)), some (.int p1), some (.int p2), some (.int p3), some (.int p4), some (.int x1), some (.int x2), none, none, none]) (qw_s (qw_s (qw_s (qw_s (qw_s (qw_s (qw_s (qw_n (qw_n (qw_n (qw_0))))))))))) h))
  · intro s3
    refine qb_iadd hX 19 rfl ?_
    refine qb_iload hX 20 rfl rfl ?_
    refine qb_icle hX 21 42 rfl (by decide) ?_ ?_
    ·
      refine qb_iload hX 24 rfl rfl ?_
      refine qb_aload_n hX 25 rfl rfl ?_
      refine qb_getR hX 26 rfl fl_Model_7 hthis rfl ?_
      refine qb_bipush hX 27 6 rfl (by decide) ?_
      refine qb_iald hX 28 rfl (kf_Model_0 hthis) (fun x5 => ?_)
      refine qb_iadd hX 29 rfl ?_
      refine qb_iload hX 30 rfl rfl ?_
      refine qb_join 69 (fun s6 => [some (.ref (qx_ad X this)), none, some (.int p2), some (.int p3), none, some (.int x1), none, none, none, none]) (fun s6 => [.int s6]) ?_ ?_
      ·
        refine qb_icle hX 31 61 rfl (by decide) ?_ ?_
        ·
          refine qb_aload_n hX 34 rfl rfl ?_
          refine qb_iload_n hX 35 rfl rfl ?_
          refine qb_iload_n hX 36 rfl rfl ?_
          refine qb_iload hX 37 rfl rfl ?_
          refine qb_callI hX 38 rfl cv_Model_175 (jm_Model_roomOf (qk_GI hX) this p1 p2 p4 hthis ) (ci := 9) hthis ⟨rfl, rfl, rfl, by decide, by decide⟩ rfl (by exact Nat.le_of_ble_eq_true rfl) (fun x7 => ?_)
          exact qb_exit (fun σ h => qj_wk (ρ' := [some (.ref (qx_ad X this)), none, some (.int p2), some (.int p3), none, some (.int x1), none, none, none, none]) (qw_s (qw_n (qw_s (qw_s (qw_n (qw_s (qw_n (qw_n (qw_n (qw_n (qw_0))))))))))) h)
        ·
          refine qb_iconst hX 32 0 rfl (by decide) ?_
          exact qb_exit (fun σ h => qj_goto hX 33 rfl (by decide) (qj_wk (ρ' := [some (.ref (qx_ad X this)), none, some (.int p2), some (.int p3), none, some (.int x1), none, none, none, none]) (qw_s (qw_n (qw_s (qw_s (qw_n (qw_s (qw_n (qw_n (qw_n (qw_n (qw_0))))))))))) h))
      · intro s6
        refine qb_istore hX 39 ([some (.ref (qx_ad X this)), none, some (.int p2), some (.int p3), none, some (.int x1), none, some (.int s6), none, none]) rfl (by decide) rfl ?_
        refine qb_iload hX 40 rfl rfl ?_
        refine qb_ifne hX 41 91 rfl (by decide) ?_ ?_
        ·
          refine qb_iload hX 51 rfl rfl ?_
          refine qb_iload hX 52 rfl rfl ?_
          refine qb_isub hX 53 rfl ?_
          refine qb_aload_n hX 54 rfl rfl ?_
          refine qb_getR hX 55 rfl fl_Model_65 hthis rfl ?_
          refine qb_iload_n hX 56 rfl rfl ?_
          refine qb_iald hX 57 rfl (kf_Model_21 hthis) (fun x8 => ?_)
          refine qb_iadd hX 58 rfl ?_
          refine qb_iconst hX 59 1 rfl (by decide) ?_
          refine qb_isub hX 60 rfl ?_
          refine qb_istoreL hX 61 (fun x9 => [some (.ref (qx_ad X this)), none, some (.int p2), some (.int p3), none, some (.int x1), none, some (.int s6), some (.int x9), none]) rfl (by decide) (fun _ => rfl) (fun x9 => ?_)
          refine qb_iload hX 62 rfl rfl ?_
          refine qb_iload hX 63 rfl rfl ?_
          refine qb_isub hX 64 rfl ?_
          refine qb_iload_n hX 65 rfl rfl ?_
          refine qb_iadd hX 66 rfl ?_
          refine qb_istoreL hX 67 (fun x10 => [some (.ref (qx_ad X this)), none, some (.int p2), some (.int p3), none, some (.int x1), none, some (.int s6), some (.int x9), some (.int x10)]) rfl (by decide) (fun _ => rfl) (fun x10 => ?_)
          refine qb_iload hX 68 rfl rfl ?_
          refine qb_iload hX 69 rfl rfl ?_
          refine qb_icge hX 70 128 rfl (by decide) ?_ ?_
          ·
            refine qb_iload hX 73 rfl rfl ?_
            exact qb_iret hX 74 rfl hR (fun _ h => h)
          ·
            refine qb_iload hX 71 rfl rfl ?_
            refine qb_goto hX 72 (tgt := 130) rfl (by decide) ?_
            exact qb_iret hX 74 rfl hR (fun _ h => h)
        ·
          refine qb_iload hX 42 rfl rfl ?_
          refine qb_iconst hX 43 1 rfl (by decide) ?_
          refine qb_iclt hX 44 89 rfl (by decide) ?_ ?_
          ·
            refine qb_iconst hX 49 0 rfl (by decide) ?_
            exact qb_iret hX 50 rfl hR (fun _ h => h)
          ·
            refine qb_iload hX 45 rfl rfl ?_
            refine qb_iload_n hX 46 rfl rfl ?_
            refine qb_iadd hX 47 rfl ?_
            refine qb_goto hX 48 (tgt := 90) rfl (by decide) ?_
            exact qb_iret hX 50 rfl hR (fun _ h => h)
    ·
      refine qb_iconst hX 22 (-1) rfl (by decide) ?_
      exact qb_iret hX 23 rfl hR (fun _ h => h)
theorem jm_Model_mostInto {l : Launch} {G : qm_G} (hG : qm_GI G) (this : Nat) (p1 : Int32) (p2 : Int32) (p3 : Int32) (p4 : Int32) (hthis : (qm_kd this).1 = 19) : qm_MI l G jy_Model_mostInto prog_11_method_22_code 10 (some .int) 3 69 [.ref (G.1 this), .int p1, .int p2, .int p3, .int p4] (jf_Model_mostInto this p1 p2 p3 p4) :=
  qm_metI (by decide +kernel) jd_Model_mostInto (fun v hv => by simp only [List.mem_cons, List.not_mem_nil, or_false] at hv; rcases hv with rfl | rfl | rfl | rfl | rfl <;> rfl) (by exact Nat.le_of_ble_eq_true rfl) hG rfl (fun X hl hg hX r0 σ0 hR => by subst hl; subst hg; exact jb_Model_mostInto hX hR this p1 p2 p3 p4 hthis)
def jl_Model_laysMay : List qm_I := [(0, .aload_n 0, 1, 1), (1, .iload_n 1, 1, 2), (2, .invokevirtual 179, 3, 5), (5, .istore 4, 2, 7), (7, .iconst 0, 1, 8), (8, .istore 5, 2, 10), (10, .iload 5, 2, 12), (12, .aload_n 0, 1, 13), (13, .getfield 7, 3, 16), (16, .iconst 0, 1, 17), (17, .iaload, 1, 18), (18, .if_icmp .gt 152, 3, 21), (21, .iload_n 2, 1, 22), (22, .istore 6, 2, 24), (24, .iload 6, 2, 26), (26, .iload 4, 2, 28), (28, .if_icmp .gt 136, 3, 31), (31, .iload 5, 2, 33), (33, .ifCond .ne 14, 3, 36), (36, .iload 6, 2, 38), (38, .iload 4, 2, 40), (40, .if_icmp .ne 7, 3, 43), (43, .iconst 0, 1, 44), (44, .goto 4, 3, 47), (47, .iconst (-1), 1, 48), (48, .istore 7, 2, 50), (50, .iload 6, 2, 52), (52, .istore 8, 2, 54), (54, .iload 8, 2, 56), (56, .iload 4, 2, 58), (58, .if_icmp .gt 85, 3, 61), (61, .iload 5, 2, 63), (63, .ifCond .le 80, 3, 66), (66, .aload_n 0, 1, 67), (67, .getfield 68, 3, 70), (70, .bipush 92, 2, 72), (72, .iload 5, 2, 74), (74, .iconst 1, 1, 75), (75, .isub, 1, 76), (76, .imul, 1, 77), (77, .iload 8, 2, 79), (79, .iadd, 1, 80), (80, .iaload, 1, 81), (81, .istore 9, 2, 83), (83, .iload 9, 2, 85), (85, .ifCond .lt 52, 3, 88), (88, .iload 8, 2, 90), (90, .iload 6, 2, 92), (92, .if_icmp .le 16, 3, 95), (95, .aload_n 0, 1, 96), (96, .iload_n 1, 1, 97), (97, .iload 8, 2, 99), (99, .invokevirtual 182, 3, 102), (102, .ifCond .ne 6, 3, 105), (105, .goto 32, 3, 108), (108, .aload_n 0, 1, 109), (109, .iload 6, 2, 111), (111, .iload 8, 2, 113), (113, .iload 9, 2, 115), (115, .iload_n 3, 1, 116), (116, .invokevirtual 186, 3, 119), (119, .istore 10, 2, 121), (121, .iload 10, 2, 123), (123, .iload 7, 2, 125), (125, .if_icmp .le 8, 3, 128), (128, .iload 10, 2, 130), (130, .goto 5, 3, 133), (133, .iload 7, 2, 135), (135, .istore 7, 2, 137), (137, .iinc 8 1, 3, 140), (140, .goto (-86), 3, 143), (143, .aload_n 0, 1, 144), (144, .getfield 68, 3, 147), (147, .bipush 92, 2, 149), (149, .iload 5, 2, 151), (151, .imul, 1, 152), (152, .iload 6, 2, 154), (154, .iadd, 1, 155), (155, .iload 7, 2, 157), (157, .iastore, 1, 158), (158, .iinc 6 1, 3, 161), (161, .goto (-137), 3, 164), (164, .iinc 5 1, 3, 167), (167, .goto (-157), 3, 170), (170, .return_, 1, 171)]
theorem jd_Model_laysMay : qm_D prog_11_method_23_code jl_Model_laysMay := qm_D_of (by decide +kernel)
noncomputable def jf_Model_laysMay (this : Nat) (p1 : Int32) (p2 : Int32) (p3 : Int32) : qm_M Unit :=
  mB (jf_Model_endOf this p1) fun x1 =>
  mB (α := Unit) (
    mW (S := Int32) (α := Unit) (fun s3 =>
      mB (mLd (qm_rf this 0) 0) fun x4 =>
      if x4 < s3 then
        mP (Sum.inr ())
      else
        mB (α := Unit) (
          mW (S := Int32) (α := Unit) (fun s6 =>
            if x1 < s6 then
              mP (Sum.inr ())
            else
              mB (α := Int32) (
                mB (α := (Unit ⊕ Int32)) (
                  if ¬ s3 = 0 then
                    mP (Sum.inl ())
                  else
                    if ¬ s6 = x1 then
                      mP (Sum.inl ())
                    else
                      mP (Sum.inr 0)) (Sum.elim (fun s8 =>
                  mP (-1)) mP)) fun s7 =>
              mB (α := Int32) (
                mW (S := Int32 × Int32) (α := Int32) (fun s10 =>
                  if x1 < s10.2 then
                    mP (Sum.inr s10.1)
                  else
                    if s3 ≤ 0 then
                      mP (Sum.inr s10.1)
                    else
                      mB (mLd (qm_rf this 22) ((92 * (s3 - 1)) + s10.2)) fun x11 =>
                      mB (α := Int32) (
                        if x11 < 0 then
                          mP s10.1
                        else
                          mB (α := (Unit ⊕ Int32)) (
                            if s10.2 ≤ s6 then
                              mP (Sum.inl ())
                            else
                              mB (jf_Model_isEnd this p1 s10.2) fun x14 =>
                              if ¬ x14 = 0 then
                                mP (Sum.inl ())
                              else
                                mP (Sum.inr s10.1)) (Sum.elim (fun s13 =>
                            mB (jf_Model_mostInto this s6 s10.2 x11 p3) fun x15 =>
                            mB (α := Int32) (
                              if x15 ≤ s10.1 then
                                mP s10.1
                              else
                                mP x15) fun s16 =>
                            mP s16) mP)) fun s12 =>
                      mB (mP (s10.2 + 1)) fun x17 =>
                      mP (Sum.inl (s12, x17))) (s7, s6)) fun s9 =>
              mB (mSt (qm_rf this 22) ((92 * s3) + s6) s9) fun _ =>
              mB (mP (s6 + 1)) fun x18 =>
              mP (Sum.inl x18)) p2) fun s5 =>
        mB (mP (s3 + 1)) fun x19 =>
        mP (Sum.inl x19)) 0) fun s2 =>
  mP ()
set_option maxRecDepth 20000 in
set_option maxHeartbeats 4000000 in
theorem jb_Model_laysMay {X : qm_X} (hX : qm_ok X qr_Model prog_11_method_23_code 11 4 98 jl_Model_laysMay) {σ0 : qm_Mem} (hR : qm_RV X σ0) (this : Nat) (p1 : Int32) (p2 : Int32) (p3 : Int32) (hthis : (qm_kd this).1 = 19) : qm_B X (jf_Model_laysMay this p1 p2 p3) 0 [some (.ref (qx_ad X this)), some (.int p1), some (.int p2), some (.int p3), none, none, none, none, none, none, none] [] (fun _ σ1 => σ1 = σ0) := by
  unfold jf_Model_laysMay
  refine qb_aload_n hX 0 rfl rfl ?_
  refine qb_iload_n hX 1 rfl rfl ?_
  refine qb_callI hX 2 rfl cv_Model_179 (jm_Model_endOf (qk_GI hX) this p1 hthis ) (ci := 9) hthis ⟨rfl, rfl, rfl, by decide, by decide⟩ rfl (by exact Nat.le_of_ble_eq_true rfl) (fun x1 => ?_)
  refine qb_istore hX 3 ([some (.ref (qx_ad X this)), some (.int p1), some (.int p2), some (.int p3), some (.int x1), none, none, none, none, none, none]) rfl (by decide) rfl ?_
  refine qb_iconst hX 4 0 rfl (by decide) ?_
  refine qb_istore hX 5 ([some (.ref (qx_ad X this)), some (.int p1), some (.int p2), some (.int p3), some (.int x1), some (.int 0), none, none, none, none, none]) rfl (by decide) rfl ?_
  refine qb_join 170 (fun s2 => [none, none, none, none, none, none, none, none, none, none, none]) (fun s2 => []) ?_ ?_
  ·
    refine qb_loopw (0) (fun s3 => [some (.ref (qx_ad X this)), some (.int p1), some (.int p2), some (.int p3), some (.int x1), some (.int s3), none, none, none, none, none]) (qw_s (qw_s (qw_s (qw_s (qw_s (qw_s (qw_n (qw_n (qw_n (qw_n (qw_n (qw_0)))))))))))) (fun s3 => ?_)
    refine qb_iload hX 6 rfl rfl ?_
    refine qb_aload_n hX 7 rfl rfl ?_
    refine qb_getR hX 8 rfl fl_Model_7 hthis rfl ?_
    refine qb_iconst hX 9 0 rfl (by decide) ?_
    refine qb_iald hX 10 rfl (kf_Model_0 hthis) (fun x4 => ?_)
    refine qb_icgt hX 11 170 rfl (by decide) ?_ ?_
    ·
      exact qb_exit (fun σ h => qj_wk (ρ' := [none, none, none, none, none, none, none, none, none, none, none]) (qw_n (qw_n (qw_n (qw_n (qw_n (qw_n (qw_n (qw_n (qw_n (qw_n (qw_n (qw_0)))))))))))) h)
    ·
      refine qb_iload_n hX 12 rfl rfl ?_
      refine qb_istore hX 13 ([some (.ref (qx_ad X this)), some (.int p1), some (.int p2), some (.int p3), some (.int x1), some (.int s3), some (.int p2), none, none, none, none]) rfl (by decide) rfl ?_
      refine qb_join 164 (fun s5 => [some (.ref (qx_ad X this)), some (.int p1), some (.int p2), some (.int p3), some (.int x1), some (.int s3), none, none, none, none, none]) (fun s5 => []) ?_ ?_
      ·
        refine qb_loopw (p2) (fun s6 => [some (.ref (qx_ad X this)), some (.int p1), some (.int p2), some (.int p3), some (.int x1), some (.int s3), some (.int s6), none, none, none, none]) (qw_s (qw_s (qw_s (qw_s (qw_s (qw_s (qw_s (qw_n (qw_n (qw_n (qw_n (qw_0)))))))))))) (fun s6 => ?_)
        refine qb_iload hX 14 rfl rfl ?_
        refine qb_iload hX 15 rfl rfl ?_
        refine qb_icgt hX 16 164 rfl (by decide) ?_ ?_
        ·
          exact qb_exit (fun σ h => qj_wk (ρ' := [some (.ref (qx_ad X this)), some (.int p1), some (.int p2), some (.int p3), some (.int x1), some (.int s3), none, none, none, none, none]) (qw_s (qw_s (qw_s (qw_s (qw_s (qw_s (qw_n (qw_n (qw_n (qw_n (qw_n (qw_0)))))))))))) h)
        ·
          refine qb_iload hX 17 rfl rfl ?_
          refine qb_join 48 (fun s7 => [some (.ref (qx_ad X this)), some (.int p1), some (.int p2), some (.int p3), some (.int x1), some (.int s3), some (.int s6), none, none, none, none]) (fun s7 => [.int s7]) ?_ ?_
          ·
            refine qb_join2 47 (fun s8 => [some (.ref (qx_ad X this)), some (.int p1), some (.int p2), some (.int p3), some (.int x1), some (.int s3), some (.int s6), none, none, none, none]) (fun s8 => []) ?_ ?_
            ·
              refine qb_ifne hX 18 47 rfl (by decide) ?_ ?_
              ·
                exact qb_exit (fun σ h => qj_wk (ρ' := [some (.ref (qx_ad X this)), some (.int p1), some (.int p2), some (.int p3), some (.int x1), some (.int s3), some (.int s6), none, none, none, none]) (qw_s (qw_s (qw_s (qw_s (qw_s (qw_s (qw_s (qw_n (qw_n (qw_n (qw_n (qw_0)))))))))))) h)
              ·
                refine qb_iload hX 19 rfl rfl ?_
                refine qb_iload hX 20 rfl rfl ?_
                refine qb_icne hX 21 47 rfl (by decide) ?_ ?_
                ·
                  exact qb_exit (fun σ h => qj_wk (ρ' := [some (.ref (qx_ad X this)), some (.int p1), some (.int p2), some (.int p3), some (.int x1), some (.int s3), some (.int s6), none, none, none, none]) (qw_s (qw_s (qw_s (qw_s (qw_s (qw_s (qw_s (qw_n (qw_n (qw_n (qw_n (qw_0)))))))))))) h)
                ·
                  refine qb_iconst hX 22 0 rfl (by decide) ?_
                  exact qb_exit (fun σ h => qj_goto hX 23 rfl (by decide) (qj_wk (ρ' := [some (.ref (qx_ad X this)), some (.int p1), some (.int p2), some (.int p3), some (.int x1), some (.int s3), some (.int s6), none, none, none, none]) (qw_s (qw_s (qw_s (qw_s (qw_s (qw_s (qw_s (qw_n (qw_n (qw_n (qw_n (qw_0)))))))))))) h))
            · intro s8
              refine qb_iconst hX 24 (-1) rfl (by decide) ?_
              exact qb_exit (fun σ h => qj_wk (ρ' := [some (.ref (qx_ad X this)), some (.int p1), some (.int p2), some (.int p3), some (.int x1), some (.int s3), some (.int s6), none, none, none, none]) (qw_s (qw_s (qw_s (qw_s (qw_s (qw_s (qw_s (qw_n (qw_n (qw_n (qw_n (qw_0)))))))))))) h)
          · intro s7
            refine qb_istore hX 25 ([some (.ref (qx_ad X this)), some (.int p1), some (.int p2), some (.int p3), some (.int x1), some (.int s3), some (.int s6), some (.int s7), none, none, none]) rfl (by decide) rfl ?_
            refine qb_iload hX 26 rfl rfl ?_
            refine qb_istore hX 27 ([some (.ref (qx_ad X this)), some (.int p1), some (.int p2), some (.int p3), some (.int x1), some (.int s3), some (.int s6), some (.int s7), some (.int s6), none, none]) rfl (by decide) rfl ?_
            refine qb_join 143 (fun s9 => [some (.ref (qx_ad X this)), some (.int p1), some (.int p2), some (.int p3), some (.int x1), some (.int s3), some (.int s6), some (.int s9), none, none, none]) (fun s9 => []) ?_ ?_
            ·
              refine qb_loopw ((s7, s6)) (fun s10 => [some (.ref (qx_ad X this)), some (.int p1), some (.int p2), some (.int p3), some (.int x1), some (.int s3), some (.int s6), some (.int s10.1), some (.int s10.2), none, none]) (qw_s (qw_s (qw_s (qw_s (qw_s (qw_s (qw_s (qw_s (qw_s (qw_n (qw_n (qw_0)))))))))))) (fun s10 => ?_)
              refine qb_iload hX 28 rfl rfl ?_
              refine qb_iload hX 29 rfl rfl ?_
              refine qb_icgt hX 30 143 rfl (by decide) ?_ ?_
              ·
                exact qb_exit (fun σ h => qj_wk (ρ' := [some (.ref (qx_ad X this)), some (.int p1), some (.int p2), some (.int p3), some (.int x1), some (.int s3), some (.int s6), some (.int s10.1), none, none, none]) (qw_s (qw_s (qw_s (qw_s (qw_s (qw_s (qw_s (qw_s (qw_n (qw_n (qw_n (qw_0)))))))))))) h)
              ·
                refine qb_iload hX 31 rfl rfl ?_
                refine qb_ifle hX 32 143 rfl (by decide) ?_ ?_
                ·
                  exact qb_exit (fun σ h => qj_wk (ρ' := [some (.ref (qx_ad X this)), some (.int p1), some (.int p2), some (.int p3), some (.int x1), some (.int s3), some (.int s6), some (.int s10.1), none, none, none]) (qw_s (qw_s (qw_s (qw_s (qw_s (qw_s (qw_s (qw_s (qw_n (qw_n (qw_n (qw_0)))))))))))) h)
                ·
                  refine qb_aload_n hX 33 rfl rfl ?_
                  refine qb_getR hX 34 rfl fl_Model_68 hthis rfl ?_
                  refine qb_bipush hX 35 92 rfl (by decide) ?_
                  refine qb_iload hX 36 rfl rfl ?_
                  refine qb_iconst hX 37 1 rfl (by decide) ?_
                  refine qb_isub hX 38 rfl ?_
                  refine qb_imul hX 39 rfl ?_
                  refine qb_iload hX 40 rfl rfl ?_
                  refine qb_iadd hX 41 rfl ?_
                  refine qb_iald hX 42 rfl (kf_Model_22 hthis) (fun x11 => ?_)
                  refine qb_istore hX 43 ([some (.ref (qx_ad X this)), some (.int p1), some (.int p2), some (.int p3), some (.int x1), some (.int s3), some (.int s6), some (.int s10.1), some (.int s10.2), some (.int x11), none]) rfl (by decide) rfl ?_
                  refine qb_iload hX 44 rfl rfl ?_
                  refine qb_join 137 (fun s12 => [some (.ref (qx_ad X this)), some (.int p1), some (.int p2), some (.int p3), some (.int x1), some (.int s3), some (.int s6), some (.int s12), some (.int s10.2), none, none]) (fun s12 => []) ?_ ?_
                  ·
                    refine qb_iflt hX 45 137 rfl (by decide) ?_ ?_
                    ·
                      exact qb_exit (fun σ h => qj_wk (ρ' := [some (.ref (qx_ad X this)), some (.int p1), some (.int p2), some (.int p3), some (.int x1), some (.int s3), some (.int s6), some (.int s10.1), some (.int s10.2), none, none]) (qw_s (qw_s (qw_s (qw_s (qw_s (qw_s (qw_s (qw_s (qw_s (qw_n (qw_n (qw_0)))))))))))) h)
                    ·
                      refine qb_iload hX 46 rfl rfl ?_
                      refine qb_iload hX 47 rfl rfl ?_
                      refine qb_join2 108 (fun s13 => [some (.ref (qx_ad X this)), some (.int p1), some (.int p2), some (.int p3), some (.int x1), some (.int s3), some (.int s6), some (.int s10.1), some (.int s10.2), some (.int x11), none]) (fun s13 => []) ?_ ?_
                      ·
                        refine qb_icle hX 48 108 rfl (by decide) ?_ ?_
                        ·
                          exact qb_exit (fun σ h => qj_wk (ρ' := [some (.ref (qx_ad X this)), some (.int p1), some (.int p2), some (.int p3), some (.int x1), some (.int s3), some (.int s6), some (.int s10.1), some (.int s10.2), some (.int x11), none]) (qw_s (qw_s (qw_s (qw_s (qw_s (qw_s (qw_s (qw_s (qw_s (qw_s (qw_n (qw_0)))))))))))) h)
                        ·
                          refine qb_aload_n hX 49 rfl rfl ?_
                          refine qb_iload_n hX 50 rfl rfl ?_
                          refine qb_iload hX 51 rfl rfl ?_
                          refine qb_callI hX 52 rfl cv_Model_182 (jm_Model_isEnd (qk_GI hX) this p1 s10.2 hthis ) (ci := 9) hthis ⟨rfl, rfl, rfl, by decide, by decide⟩ rfl (by exact Nat.le_of_ble_eq_true rfl) (fun x14 => ?_)
                          refine qb_ifne hX 53 108 rfl (by decide) ?_ ?_
                          ·
                            exact qb_exit (fun σ h => qj_wk (ρ' := [some (.ref (qx_ad X this)), some (.int p1), some (.int p2), some (.int p3), some (.int x1), some (.int s3), some (.int s6), some (.int s10.1), some (.int s10.2), some (.int x11), none]) (qw_s (qw_s (qw_s (qw_s (qw_s (qw_s (qw_s (qw_s (qw_s (qw_s (qw_n (qw_0)))))))))))) h)
                          ·
                            exact qb_exit (fun σ h => qj_goto hX 54 rfl (by decide) (qj_wk (ρ' := [some (.ref (qx_ad X this)), some (.int p1), some (.int p2), some (.int p3), some (.int x1), some (.int s3), some (.int s6), some (.int s10.1), some (.int s10.2), none, none]) (qw_s (qw_s (qw_s (qw_s (qw_s (qw_s (qw_s (qw_s (qw_s (qw_n (qw_n (qw_0)))))))))))) h))
                      · intro s13
                        refine qb_aload_n hX 55 rfl rfl ?_
                        refine qb_iload hX 56 rfl rfl ?_
                        refine qb_iload hX 57 rfl rfl ?_
                        refine qb_iload hX 58 rfl rfl ?_
                        refine qb_iload_n hX 59 rfl rfl ?_
                        refine qb_callI hX 60 rfl cv_Model_186 (jm_Model_mostInto (qk_GI hX) this s6 s10.2 x11 p3 hthis ) (ci := 9) hthis ⟨rfl, rfl, rfl, by decide, by decide⟩ rfl (by exact Nat.le_of_ble_eq_true rfl) (fun x15 => ?_)
                        refine qb_istore hX 61 ([some (.ref (qx_ad X this)), some (.int p1), some (.int p2), some (.int p3), some (.int x1), some (.int s3), some (.int s6), some (.int s10.1), some (.int s10.2), some (.int x11), some (.int x15)]) rfl (by decide) rfl ?_
                        refine qb_iload hX 62 rfl rfl ?_
                        refine qb_iload hX 63 rfl rfl ?_
                        refine qb_join 135 (fun s16 => [some (.ref (qx_ad X this)), some (.int p1), some (.int p2), some (.int p3), some (.int x1), some (.int s3), some (.int s6), none, some (.int s10.2), none, none]) (fun s16 => [.int s16]) ?_ ?_
                        ·
                          refine qb_icle hX 64 133 rfl (by decide) ?_ ?_
                          ·
                            refine qb_iload hX 67 rfl rfl ?_
                            exact qb_exit (fun σ h => qj_wk (ρ' := [some (.ref (qx_ad X this)), some (.int p1), some (.int p2), some (.int p3), some (.int x1), some (.int s3), some (.int s6), none, some (.int s10.2), none, none]) (qw_s (qw_s (qw_s (qw_s (qw_s (qw_s (qw_s (qw_n (qw_s (qw_n (qw_n (qw_0)))))))))))) h)
                          ·
                            refine qb_iload hX 65 rfl rfl ?_
                            exact qb_exit (fun σ h => qj_goto hX 66 rfl (by decide) (qj_wk (ρ' := [some (.ref (qx_ad X this)), some (.int p1), some (.int p2), some (.int p3), some (.int x1), some (.int s3), some (.int s6), none, some (.int s10.2), none, none]) (qw_s (qw_s (qw_s (qw_s (qw_s (qw_s (qw_s (qw_n (qw_s (qw_n (qw_n (qw_0)))))))))))) h))
                        · intro s16
                          refine qb_istore hX 68 ([some (.ref (qx_ad X this)), some (.int p1), some (.int p2), some (.int p3), some (.int x1), some (.int s3), some (.int s6), some (.int s16), some (.int s10.2), none, none]) rfl (by decide) rfl ?_
                          exact qb_exit (fun σ h => qj_wk (ρ' := [some (.ref (qx_ad X this)), some (.int p1), some (.int p2), some (.int p3), some (.int x1), some (.int s3), some (.int s6), some (.int s16), some (.int s10.2), none, none]) (qw_s (qw_s (qw_s (qw_s (qw_s (qw_s (qw_s (qw_s (qw_s (qw_n (qw_n (qw_0)))))))))))) h)
                  · intro s12
                    refine qb_iinc hX 69 1 (fun x17 => [some (.ref (qx_ad X this)), some (.int p1), some (.int p2), some (.int p3), some (.int x1), some (.int s3), some (.int s6), some (.int s12), some (.int x17), none, none]) rfl (by decide) (by decide) rfl (fun _ => rfl) (fun x17 => ?_)
                    exact qb_exit (fun σ h => qj_goto hX 70 rfl (by decide) (qj_wk (ρ' := [some (.ref (qx_ad X this)), some (.int p1), some (.int p2), some (.int p3), some (.int x1), some (.int s3), some (.int s6), some (.int s12), some (.int x17), none, none]) (qw_s (qw_s (qw_s (qw_s (qw_s (qw_s (qw_s (qw_s (qw_s (qw_n (qw_n (qw_0)))))))))))) h))
            · intro s9
              refine qb_aload_n hX 71 rfl rfl ?_
              refine qb_getR hX 72 rfl fl_Model_68 hthis rfl ?_
              refine qb_bipush hX 73 92 rfl (by decide) ?_
              refine qb_iload hX 74 rfl rfl ?_
              refine qb_imul hX 75 rfl ?_
              refine qb_iload hX 76 rfl rfl ?_
              refine qb_iadd hX 77 rfl ?_
              refine qb_iload hX 78 rfl rfl ?_
              refine qb_iast hX 79 rfl (kf_Model_22 hthis) ?_
              refine qb_iinc hX 80 1 (fun x18 => [some (.ref (qx_ad X this)), some (.int p1), some (.int p2), some (.int p3), some (.int x1), some (.int s3), some (.int x18), some (.int s9), none, none, none]) rfl (by decide) (by decide) rfl (fun _ => rfl) (fun x18 => ?_)
              exact qb_exit (fun σ h => qj_goto hX 81 rfl (by decide) (qj_wk (ρ' := [some (.ref (qx_ad X this)), some (.int p1), some (.int p2), some (.int p3), some (.int x1), some (.int s3), some (.int x18), none, none, none, none]) (qw_s (qw_s (qw_s (qw_s (qw_s (qw_s (qw_s (qw_n (qw_n (qw_n (qw_n (qw_0)))))))))))) h))
      · intro s5
        refine qb_iinc hX 82 1 (fun x19 => [some (.ref (qx_ad X this)), some (.int p1), some (.int p2), some (.int p3), some (.int x1), some (.int x19), none, none, none, none, none]) rfl (by decide) (by decide) rfl (fun _ => rfl) (fun x19 => ?_)
        exact qb_exit (fun σ h => qj_goto hX 83 rfl (by decide) (qj_wk (ρ' := [some (.ref (qx_ad X this)), some (.int p1), some (.int p2), some (.int p3), some (.int x1), some (.int x19), none, none, none, none, none]) (qw_s (qw_s (qw_s (qw_s (qw_s (qw_s (qw_n (qw_n (qw_n (qw_n (qw_n (qw_0)))))))))))) h))
  · intro s2
    exact qb_vret hX 84 rfl hR (fun _ h => h)
theorem jm_Model_laysMay {l : Launch} {G : qm_G} (hG : qm_GI G) (this : Nat) (p1 : Int32) (p2 : Int32) (p3 : Int32) (hthis : (qm_kd this).1 = 19) : qm_MV l G jy_Model_laysMay prog_11_method_23_code 11 4 98 [.ref (G.1 this), .int p1, .int p2, .int p3] (jf_Model_laysMay this p1 p2 p3) :=
  qm_metV (by decide +kernel) jd_Model_laysMay (fun v hv => by simp only [List.mem_cons, List.not_mem_nil, or_false] at hv; rcases hv with rfl | rfl | rfl | rfl <;> rfl) (by exact Nat.le_of_ble_eq_true rfl) hG (fun X hl hg hX σ0 hR => by subst hl; subst hg; exact jb_Model_laysMay hX hR this p1 p2 p3 hthis)
def jl_Model_fitsFrom : List qm_I := [(0, .aload_n 0, 1, 1), (1, .iload_n 1, 1, 2), (2, .iload_n 2, 1, 3), (3, .iload 4, 2, 5), (5, .invokevirtual 190, 3, 8), (8, .iload_n 3, 1, 9), (9, .aload_n 0, 1, 10), (10, .getfield 68, 3, 13), (13, .bipush 92, 2, 15), (15, .aload_n 0, 1, 16), (16, .getfield 7, 3, 19), (19, .iconst 0, 1, 20), (20, .iaload, 1, 21), (21, .imul, 1, 22), (22, .iload_n 2, 1, 23), (23, .iadd, 1, 24), (24, .iaload, 1, 25), (25, .if_icmp .gt 7, 3, 28), (28, .iconst 1, 1, 29), (29, .goto 4, 3, 32), (32, .iconst 0, 1, 33), (33, .ireturn, 1, 34)]
theorem jd_Model_fitsFrom : qm_D prog_11_method_24_code jl_Model_fitsFrom := qm_D_of (by decide +kernel)
noncomputable def jf_Model_fitsFrom (this : Nat) (p1 : Int32) (p2 : Int32) (p3 : Int32) (p4 : Int32) : qm_M Int32 :=
  mB (jf_Model_laysMay this p1 p2 p4) fun _ =>
  mB (mLd (qm_rf this 0) 0) fun x1 =>
  mB (mLd (qm_rf this 22) ((92 * x1) + p2)) fun x2 =>
  if x2 < p3 then
    mP 0
  else
    mP 1
set_option maxRecDepth 20000 in
set_option maxHeartbeats 4000000 in
theorem jb_Model_fitsFrom {X : qm_X} (hX : qm_ok X qr_Model prog_11_method_24_code 5 5 128 jl_Model_fitsFrom) {r0 : Int32} {σ0 : qm_Mem} (hR : qm_RI X r0 σ0 .boolean) (this : Nat) (p1 : Int32) (p2 : Int32) (p3 : Int32) (p4 : Int32) (hthis : (qm_kd this).1 = 19) : qm_B X (jf_Model_fitsFrom this p1 p2 p3 p4) 0 [some (.ref (qx_ad X this)), some (.int p1), some (.int p2), some (.int p3), some (.int p4)] [] (fun r σ1 => r = r0 ∧ σ1 = σ0) := by
  unfold jf_Model_fitsFrom
  refine qb_aload_n hX 0 rfl rfl ?_
  refine qb_iload_n hX 1 rfl rfl ?_
  refine qb_iload_n hX 2 rfl rfl ?_
  refine qb_iload hX 3 rfl rfl ?_
  refine qb_callV hX 4 rfl cv_Model_190 (jm_Model_laysMay (qk_GI hX) this p1 p2 p4 hthis ) (ci := 9) hthis ⟨rfl, rfl, rfl, by decide, by decide⟩ rfl (by exact Nat.le_of_ble_eq_true rfl) ?_
  refine qb_iload_n hX 5 rfl rfl ?_
  refine qb_aload_n hX 6 rfl rfl ?_
  refine qb_getR hX 7 rfl fl_Model_68 hthis rfl ?_
  refine qb_bipush hX 8 92 rfl (by decide) ?_
  refine qb_aload_n hX 9 rfl rfl ?_
  refine qb_getR hX 10 rfl fl_Model_7 hthis rfl ?_
  refine qb_iconst hX 11 0 rfl (by decide) ?_
  refine qb_iald hX 12 rfl (kf_Model_0 hthis) (fun x1 => ?_)
  refine qb_imul hX 13 rfl ?_
  refine qb_iload_n hX 14 rfl rfl ?_
  refine qb_iadd hX 15 rfl ?_
  refine qb_iald hX 16 rfl (kf_Model_22 hthis) (fun x2 => ?_)
  refine qb_icgt hX 17 32 rfl (by decide) ?_ ?_
  ·
    refine qb_iconst hX 20 0 rfl (by decide) ?_
    exact qb_zret1 hX 21 rfl hR (by decide) (fun _ h => h)
  ·
    refine qb_iconst hX 18 1 rfl (by decide) ?_
    refine qb_goto hX 19 (tgt := 33) rfl (by decide) ?_
    exact qb_zret1 hX 21 rfl hR (by decide) (fun _ h => h)
theorem jm_Model_fitsFrom {l : Launch} {G : qm_G} (hG : qm_GI G) (this : Nat) (p1 : Int32) (p2 : Int32) (p3 : Int32) (p4 : Int32) (hthis : (qm_kd this).1 = 19) : qm_MI l G jy_Model_fitsFrom prog_11_method_24_code 5 (some .boolean) 5 128 [.ref (G.1 this), .int p1, .int p2, .int p3, .int p4] (jf_Model_fitsFrom this p1 p2 p3 p4) :=
  qm_metI (by decide +kernel) jd_Model_fitsFrom (fun v hv => by simp only [List.mem_cons, List.not_mem_nil, or_false] at hv; rcases hv with rfl | rfl | rfl | rfl | rfl <;> rfl) (by exact Nat.le_of_ble_eq_true rfl) hG rfl (fun X hl hg hX r0 σ0 hR => by subst hl; subst hg; exact jb_Model_fitsFrom hX hR this p1 p2 p3 p4 hthis)
def jl_Model_leastFrom : List qm_I := [(0, .iconst 0, 1, 1), (1, .istore 5, 2, 3), (3, .iload 4, 2, 5), (5, .istore 6, 2, 7), (7, .iload 5, 2, 9), (9, .iload 6, 2, 11), (11, .if_icmp .ge 40, 3, 14), (14, .iload 5, 2, 16), (16, .iload 6, 2, 18), (18, .iadd, 1, 19), (19, .iconst 2, 1, 20), (20, .idiv, 1, 21), (21, .istore 7, 2, 23), (23, .aload_n 0, 1, 24), (24, .iload_n 1, 1, 25), (25, .iload_n 2, 1, 26), (26, .iload_n 3, 1, 27), (27, .iload 7, 2, 29), (29, .invokevirtual 194, 3, 32), (32, .ifCond .eq 10, 3, 35), (35, .iload 7, 2, 37), (37, .istore 6, 2, 39), (39, .goto 9, 3, 42), (42, .iload 7, 2, 44), (44, .iconst 1, 1, 45), (45, .iadd, 1, 46), (46, .istore 5, 2, 48), (48, .goto (-41), 3, 51), (51, .iload 5, 2, 53), (53, .ireturn, 1, 54)]
theorem jd_Model_leastFrom : qm_D prog_11_method_25_code jl_Model_leastFrom := qm_D_of (by decide +kernel)
noncomputable def jf_Model_leastFrom (this : Nat) (p1 : Int32) (p2 : Int32) (p3 : Int32) (p4 : Int32) : qm_M Int32 :=
  mB (α := Int32) (
    mW (S := Int32 × Int32) (α := Int32) (fun s2 =>
      if s2.2 ≤ s2.1 then
        mP (Sum.inr s2.1)
      else
        mB (mDv (s2.1 + s2.2) 2) fun x3 =>
        mB (jf_Model_fitsFrom this p1 p2 p3 x3) fun x4 =>
        mB (α := Int32 × Int32) (
          if x4 = 0 then
            mB (mP (x3 + 1)) fun x6 =>
            mP (x6, s2.2)
          else
            mP (s2.1, x3)) fun s5 =>
        mP (Sum.inl (s5.1, s5.2))) (0, p4)) fun s1 =>
  mP s1
set_option maxRecDepth 20000 in
set_option maxHeartbeats 4000000 in
theorem jb_Model_leastFrom {X : qm_X} (hX : qm_ok X qr_Model prog_11_method_25_code 8 6 152 jl_Model_leastFrom) {r0 : Int32} {σ0 : qm_Mem} (hR : qm_RI X r0 σ0 .int) (this : Nat) (p1 : Int32) (p2 : Int32) (p3 : Int32) (p4 : Int32) (hthis : (qm_kd this).1 = 19) : qm_B X (jf_Model_leastFrom this p1 p2 p3 p4) 0 [some (.ref (qx_ad X this)), some (.int p1), some (.int p2), some (.int p3), some (.int p4), none, none, none] [] (fun r σ1 => r = r0 ∧ σ1 = σ0) := by
  unfold jf_Model_leastFrom
  refine qb_iconst hX 0 0 rfl (by decide) ?_
  refine qb_istore hX 1 ([some (.ref (qx_ad X this)), some (.int p1), some (.int p2), some (.int p3), some (.int p4), some (.int 0), none, none]) rfl (by decide) rfl ?_
  refine qb_iload hX 2 rfl rfl ?_
  refine qb_istore hX 3 ([some (.ref (qx_ad X this)), some (.int p1), some (.int p2), some (.int p3), some (.int p4), some (.int 0), some (.int p4), none]) rfl (by decide) rfl ?_
  refine qb_join 51 (fun s1 => [none, none, none, none, none, some (.int s1), none, none]) (fun s1 => []) ?_ ?_
  ·
    refine qb_loopw ((0, p4)) (fun s2 => [some (.ref (qx_ad X this)), some (.int p1), some (.int p2), some (.int p3), none, some (.int s2.1), some (.int s2.2), none]) (qw_s (qw_s (qw_s (qw_s (qw_n (qw_s (qw_s (qw_n (qw_0))))))))) (fun s2 => ?_)
    refine qb_iload hX 4 rfl rfl ?_
    refine qb_iload hX 5 rfl rfl ?_
    refine qb_icge hX 6 51 rfl (by decide) ?_ ?_
    ·
      exact qb_exit (fun σ h => qj_wk (ρ' := [none, none, none, none, none, some (.int s2.1), none, none]) (qw_n (qw_n (qw_n (qw_n (qw_n (qw_s (qw_n (qw_n (qw_0))))))))) h)
    ·
      refine qb_iload hX 7 rfl rfl ?_
      refine qb_iload hX 8 rfl rfl ?_
      refine qb_iadd hX 9 rfl ?_
      refine qb_iconst hX 10 2 rfl (by decide) ?_
      refine qb_idiv hX 11 rfl (fun x3 => ?_)
      refine qb_istore hX 12 ([some (.ref (qx_ad X this)), some (.int p1), some (.int p2), some (.int p3), none, some (.int s2.1), some (.int s2.2), some (.int x3)]) rfl (by decide) rfl ?_
      refine qb_aload_n hX 13 rfl rfl ?_
      refine qb_iload_n hX 14 rfl rfl ?_
      refine qb_iload_n hX 15 rfl rfl ?_
      refine qb_iload_n hX 16 rfl rfl ?_
      refine qb_iload hX 17 rfl rfl ?_
      refine qb_callI hX 18 rfl cv_Model_194 (jm_Model_fitsFrom (qk_GI hX) this p1 p2 p3 x3 hthis ) (ci := 9) hthis ⟨rfl, rfl, rfl, by decide, by decide⟩ rfl (by exact Nat.le_of_ble_eq_true rfl) (fun x4 => ?_)
      refine qb_join 48 (fun s5 => [some (.ref (qx_ad X this)), some (.int p1), some (.int p2), some (.int p3), none, some (.int s5.1), some (.int s5.2), none]) (fun s5 => []) ?_ ?_
      ·
        refine qb_ifeq hX 19 42 rfl (by decide) ?_ ?_
        ·
          refine qb_iload hX 23 rfl rfl ?_
          refine qb_iconst hX 24 1 rfl (by decide) ?_
          refine qb_iadd hX 25 rfl ?_
          refine qb_istoreL hX 26 (fun x6 => [some (.ref (qx_ad X this)), some (.int p1), some (.int p2), some (.int p3), none, some (.int x6), some (.int s2.2), some (.int x3)]) rfl (by decide) (fun _ => rfl) (fun x6 => ?_)
          exact qb_exit (fun σ h => qj_wk (ρ' := [some (.ref (qx_ad X this)), some (.int p1), some (.int p2), some (.int p3), none, some (.int x6), some (.int s2.2), none]) (qw_s (qw_s (qw_s (qw_s (qw_n (qw_s (qw_s (qw_n (qw_0))))))))) h)
        ·
          refine qb_iload hX 20 rfl rfl ?_
          refine qb_istore hX 21 ([some (.ref (qx_ad X this)), some (.int p1), some (.int p2), some (.int p3), none, some (.int s2.1), some (.int x3), some (.int x3)]) rfl (by decide) rfl ?_
          exact qb_exit (fun σ h => qj_goto hX 22 rfl (by decide) (qj_wk (ρ' := [some (.ref (qx_ad X this)), some (.int p1), some (.int p2), some (.int p3), none, some (.int s2.1), some (.int x3), none]) (qw_s (qw_s (qw_s (qw_s (qw_n (qw_s (qw_s (qw_n (qw_0))))))))) h))
      · intro s5
        exact qb_exit (fun σ h => qj_goto hX 27 rfl (by decide) (qj_wk (ρ' := [some (.ref (qx_ad X this)), some (.int p1), some (.int p2), some (.int p3), none, some (.int s5.1), some (.int s5.2), none]) (qw_s (qw_s (qw_s (qw_s (qw_n (qw_s (qw_s (qw_n (qw_0))))))))) h))
  · intro s1
    refine qb_iload hX 28 rfl rfl ?_
    exact qb_iret hX 29 rfl hR (fun _ h => h)
theorem jm_Model_leastFrom {l : Launch} {G : qm_G} (hG : qm_GI G) (this : Nat) (p1 : Int32) (p2 : Int32) (p3 : Int32) (p4 : Int32) (hthis : (qm_kd this).1 = 19) : qm_MI l G jy_Model_leastFrom prog_11_method_25_code 8 (some .int) 6 152 [.ref (G.1 this), .int p1, .int p2, .int p3, .int p4] (jf_Model_leastFrom this p1 p2 p3 p4) :=
  qm_metI (by decide +kernel) jd_Model_leastFrom (fun v hv => by simp only [List.mem_cons, List.not_mem_nil, or_false] at hv; rcases hv with rfl | rfl | rfl | rfl | rfl <;> rfl) (by exact Nat.le_of_ble_eq_true rfl) hG rfl (fun X hl hg hX r0 σ0 hR => by subst hl; subst hg; exact jb_Model_leastFrom hX hR this p1 p2 p3 p4 hthis)
def jl_Model_puts : List qm_I := [(0, .aload_n 0, 1, 1), (1, .getfield 198, 3, 4), (4, .istore 6, 2, 6), (6, .aload_n 0, 1, 7), (7, .getfield 71, 3, 10), (10, .iload 6, 2, 12), (12, .aload_n 0, 1, 13), (13, .getfield 201, 3, 16), (16, .iastore, 1, 17), (17, .aload_n 0, 1, 18), (18, .getfield 74, 3, 21), (21, .iload 6, 2, 23), (23, .iload_n 2, 1, 24), (24, .iastore, 1, 25), (25, .aload_n 0, 1, 26), (26, .getfield 77, 3, 29), (29, .iload 6, 2, 31), (31, .iload_n 1, 1, 32), (32, .iastore, 1, 33), (33, .aload_n 0, 1, 34), (34, .getfield 80, 3, 37), (37, .iload 6, 2, 39), (39, .aload_n 0, 1, 40), (40, .getfield 204, 3, 43), (43, .iastore, 1, 44), (44, .aload_n 0, 1, 45), (45, .getfield 83, 3, 48), (48, .iload 6, 2, 50), (50, .iload_n 3, 1, 51), (51, .iastore, 1, 52), (52, .aload_n 0, 1, 53), (53, .getfield 86, 3, 56), (56, .iload 6, 2, 58), (58, .aload_n 0, 1, 59), (59, .getfield 207, 3, 62), (62, .iastore, 1, 63), (63, .aload_n 0, 1, 64), (64, .getfield 89, 3, 67), (67, .iload 6, 2, 69), (69, .aload_n 0, 1, 70), (70, .getfield 7, 3, 73), (73, .iconst 1, 1, 74), (74, .iaload, 1, 75), (75, .aload_n 0, 1, 76), (76, .getfield 210, 3, 79), (79, .isub, 1, 80), (80, .iastore, 1, 81), (81, .aload_n 0, 1, 82), (82, .getfield 92, 3, 85), (85, .iload 6, 2, 87), (87, .iload 4, 2, 89), (89, .iastore, 1, 90), (90, .aload_n 0, 1, 91), (91, .getfield 95, 3, 94), (94, .iload 6, 2, 96), (96, .iload 5, 2, 98), (98, .bastore, 1, 99), (99, .aload_n 0, 1, 100), (100, .dup, 1, 101), (101, .getfield 207, 3, 104), (104, .aload_n 0, 1, 105), (105, .aload_n 0, 1, 106), (106, .getfield 204, 3, 109), (109, .iload_n 3, 1, 110), (110, .invokevirtual 172, 3, 113), (113, .aload_n 0, 1, 114), (114, .aload_n 0, 1, 115), (115, .getfield 204, 3, 118), (118, .iload_n 3, 1, 119), (119, .aload_n 0, 1, 120), (120, .getfield 207, 3, 123), (123, .iload 4, 2, 125), (125, .invokevirtual 213, 3, 128), (128, .isub, 1, 129), (129, .iadd, 1, 130), (130, .putfield 207, 3, 133), (133, .aload_n 0, 1, 134), (134, .iload_n 3, 1, 135), (135, .putfield 204, 3, 138), (138, .aload_n 0, 1, 139), (139, .dup, 1, 140), (140, .getfield 198, 3, 143), (143, .iconst 1, 1, 144), (144, .iadd, 1, 145), (145, .putfield 198, 3, 148), (148, .return_, 1, 149)]
theorem jd_Model_puts : qm_D prog_11_method_26_code jl_Model_puts := qm_D_of (by decide +kernel)
noncomputable def jf_Model_puts (this : Nat) (p1 : Int32) (p2 : Int32) (p3 : Int32) (p4 : Int32) (p5 : Int32) : qm_M Unit :=
  mB (mGt this 32) fun x1 =>
  mB (mGt this 33) fun x2 =>
  mB (mSt (qm_rf this 23) x1 x2) fun _ =>
  mB (mSt (qm_rf this 24) x1 p2) fun _ =>
  mB (mSt (qm_rf this 25) x1 p1) fun _ =>
  mB (mGt this 36) fun x3 =>
  mB (mSt (qm_rf this 26) x1 x3) fun _ =>
  mB (mSt (qm_rf this 27) x1 p3) fun _ =>
  mB (mGt this 37) fun x4 =>
  mB (mSt (qm_rf this 28) x1 x4) fun _ =>
  mB (mLd (qm_rf this 0) 1) fun x5 =>
  mB (mGt this 34) fun x6 =>
  mB (mSt (qm_rf this 29) x1 (x5 - x6)) fun _ =>
  mB (mSt (qm_rf this 30) x1 p4) fun _ =>
  mB (mSz (qm_rf this 31) x1 p5) fun _ =>
  mB (mGt this 37) fun x7 =>
  mB (mGt this 36) fun x8 =>
  mB (jf_Model_ownOf this x8 p3) fun x9 =>
  mB (mGt this 36) fun x10 =>
  mB (mGt this 37) fun x11 =>
  mB (jf_Model_standsOf this x10 p3 x11 p4) fun x12 =>
  mB (mPt this 37 (x7 + (x9 - x12))) fun _ =>
  mB (mPt this 36 p3) fun _ =>
  mB (mGt this 32) fun x13 =>
  mB (mPt this 32 (x13 + 1)) fun _ =>
  mP ()
set_option maxRecDepth 20000 in
set_option maxHeartbeats 4000000 in
theorem jb_Model_puts {X : qm_X} (hX : qm_ok X qr_Model prog_11_method_26_code 7 4 95 jl_Model_puts) {σ0 : qm_Mem} (hR : qm_RV X σ0) (this : Nat) (p1 : Int32) (p2 : Int32) (p3 : Int32) (p4 : Int32) (p5 : Int32) (hthis : (qm_kd this).1 = 19) : qm_B X (jf_Model_puts this p1 p2 p3 p4 p5) 0 [some (.ref (qx_ad X this)), some (.int p1), some (.int p2), some (.int p3), some (.int p4), some (.int p5), none] [] (fun _ σ1 => σ1 = σ0) := by
  unfold jf_Model_puts
  refine qb_aload_n hX 0 rfl rfl ?_
  refine qb_get hX 1 rfl fl_Model_198 hthis rfl (fun x1 => ?_)
  refine qb_istore hX 2 ([some (.ref (qx_ad X this)), some (.int p1), some (.int p2), some (.int p3), some (.int p4), some (.int p5), some (.int x1)]) rfl (by decide) rfl ?_
  refine qb_aload_n hX 3 rfl rfl ?_
  refine qb_getR hX 4 rfl fl_Model_71 hthis rfl ?_
  refine qb_iload hX 5 rfl rfl ?_
  refine qb_aload_n hX 6 rfl rfl ?_
  refine qb_get hX 7 rfl fl_Model_201 hthis rfl (fun x2 => ?_)
  refine qb_iast hX 8 rfl (kf_Model_23 hthis) ?_
  refine qb_aload_n hX 9 rfl rfl ?_
  refine qb_getR hX 10 rfl fl_Model_74 hthis rfl ?_
  refine qb_iload hX 11 rfl rfl ?_
  refine qb_iload_n hX 12 rfl rfl ?_
  refine qb_iast hX 13 rfl (kf_Model_24 hthis) ?_
  refine qb_aload_n hX 14 rfl rfl ?_
  refine qb_getR hX 15 rfl fl_Model_77 hthis rfl ?_
  refine qb_iload hX 16 rfl rfl ?_
  refine qb_iload_n hX 17 rfl rfl ?_
  refine qb_iast hX 18 rfl (kf_Model_25 hthis) ?_
  refine qb_aload_n hX 19 rfl rfl ?_
  refine qb_getR hX 20 rfl fl_Model_80 hthis rfl ?_
  refine qb_iload hX 21 rfl rfl ?_
  refine qb_aload_n hX 22 rfl rfl ?_
  refine qb_get hX 23 rfl fl_Model_204 hthis rfl (fun x3 => ?_)
  refine qb_iast hX 24 rfl (kf_Model_26 hthis) ?_
  refine qb_aload_n hX 25 rfl rfl ?_
  refine qb_getR hX 26 rfl fl_Model_83 hthis rfl ?_
  refine qb_iload hX 27 rfl rfl ?_
  refine qb_iload_n hX 28 rfl rfl ?_
  refine qb_iast hX 29 rfl (kf_Model_27 hthis) ?_
  refine qb_aload_n hX 30 rfl rfl ?_
  refine qb_getR hX 31 rfl fl_Model_86 hthis rfl ?_
  refine qb_iload hX 32 rfl rfl ?_
  refine qb_aload_n hX 33 rfl rfl ?_
  refine qb_get hX 34 rfl fl_Model_207 hthis rfl (fun x4 => ?_)
  refine qb_iast hX 35 rfl (kf_Model_28 hthis) ?_
  refine qb_aload_n hX 36 rfl rfl ?_
  refine qb_getR hX 37 rfl fl_Model_89 hthis rfl ?_
  refine qb_iload hX 38 rfl rfl ?_
  refine qb_aload_n hX 39 rfl rfl ?_
  refine qb_getR hX 40 rfl fl_Model_7 hthis rfl ?_
  refine qb_iconst hX 41 1 rfl (by decide) ?_
  refine qb_iald hX 42 rfl (kf_Model_0 hthis) (fun x5 => ?_)
  refine qb_aload_n hX 43 rfl rfl ?_
  refine qb_get hX 44 rfl fl_Model_210 hthis rfl (fun x6 => ?_)
  refine qb_isub hX 45 rfl ?_
  refine qb_iast hX 46 rfl (kf_Model_29 hthis) ?_
  refine qb_aload_n hX 47 rfl rfl ?_
  refine qb_getR hX 48 rfl fl_Model_92 hthis rfl ?_
  refine qb_iload hX 49 rfl rfl ?_
  refine qb_iload hX 50 rfl rfl ?_
  refine qb_iast hX 51 rfl (kf_Model_30 hthis) ?_
  refine qb_aload_n hX 52 rfl rfl ?_
  refine qb_getR hX 53 rfl fl_Model_95 hthis rfl ?_
  refine qb_iload hX 54 rfl rfl ?_
  refine qb_iload hX 55 rfl rfl ?_
  refine qb_zast hX 56 rfl (kf_Model_31 hthis) ?_
  refine qb_aload_n hX 57 rfl rfl ?_
  refine qb_dup hX 58 rfl rfl ?_
  refine qb_get hX 59 rfl fl_Model_207 hthis rfl (fun x7 => ?_)
  refine qb_aload_n hX 60 rfl rfl ?_
  refine qb_aload_n hX 61 rfl rfl ?_
  refine qb_get hX 62 rfl fl_Model_204 hthis rfl (fun x8 => ?_)
  refine qb_iload_n hX 63 rfl rfl ?_
  refine qb_callI hX 64 rfl cv_Model_172 (jm_Model_ownOf (qk_GI hX) this x8 p3 hthis ) (ci := 9) hthis ⟨rfl, rfl, rfl, by decide, by decide⟩ rfl (by exact Nat.le_of_ble_eq_true rfl) (fun x9 => ?_)
  refine qb_aload_n hX 65 rfl rfl ?_
  refine qb_aload_n hX 66 rfl rfl ?_
  refine qb_get hX 67 rfl fl_Model_204 hthis rfl (fun x10 => ?_)
  refine qb_iload_n hX 68 rfl rfl ?_
  refine qb_aload_n hX 69 rfl rfl ?_
  refine qb_get hX 70 rfl fl_Model_207 hthis rfl (fun x11 => ?_)
  refine qb_iload hX 71 rfl rfl ?_
  refine qb_callI hX 72 rfl cv_Model_213 (jm_Model_standsOf (qk_GI hX) this x10 p3 x11 p4 hthis ) (ci := 9) hthis ⟨rfl, rfl, rfl, by decide, by decide⟩ rfl (by exact Nat.le_of_ble_eq_true rfl) (fun x12 => ?_)
  refine qb_isub hX 73 rfl ?_
  refine qb_iadd hX 74 rfl ?_
  refine qb_put hX 75 rfl fp_Model_207 hthis ?_
  refine qb_aload_n hX 76 rfl rfl ?_
  refine qb_iload_n hX 77 rfl rfl ?_
  refine qb_put hX 78 rfl fp_Model_204 hthis ?_
  refine qb_aload_n hX 79 rfl rfl ?_
  refine qb_dup hX 80 rfl rfl ?_
  refine qb_get hX 81 rfl fl_Model_198 hthis rfl (fun x13 => ?_)
  refine qb_iconst hX 82 1 rfl (by decide) ?_
  refine qb_iadd hX 83 rfl ?_
  refine qb_put hX 84 rfl fp_Model_198 hthis ?_
  exact qb_vret hX 85 rfl hR (fun _ h => h)
theorem jm_Model_puts {l : Launch} {G : qm_G} (hG : qm_GI G) (this : Nat) (p1 : Int32) (p2 : Int32) (p3 : Int32) (p4 : Int32) (p5 : Int32) (hthis : (qm_kd this).1 = 19) : qm_MV l G jy_Model_puts prog_11_method_26_code 7 4 95 [.ref (G.1 this), .int p1, .int p2, .int p3, .int p4, .int p5] (jf_Model_puts this p1 p2 p3 p4 p5) :=
  qm_metV (by decide +kernel) jd_Model_puts (fun v hv => by simp only [List.mem_cons, List.not_mem_nil, or_false] at hv; rcases hv with rfl | rfl | rfl | rfl | rfl | rfl <;> rfl) (by exact Nat.le_of_ble_eq_true rfl) hG (fun X hl hg hX σ0 hR => by subst hl; subst hg; exact jb_Model_puts hX hR this p1 p2 p3 p4 p5 hthis)
def jl_Model_turnsPage : List qm_I := [(0, .aload_n 0, 1, 1), (1, .dup, 1, 2), (2, .getfield 201, 3, 5), (5, .iconst 1, 1, 6), (6, .iadd, 1, 7), (7, .putfield 201, 3, 10), (10, .aload_n 0, 1, 11), (11, .aload_n 0, 1, 12), (12, .getfield 7, 3, 15), (15, .iconst 1, 1, 16), (16, .iaload, 1, 17), (17, .putfield 210, 3, 20), (20, .aload_n 0, 1, 21), (21, .getfield 201, 3, 24), (24, .bipush 40, 2, 26), (26, .if_icmp .ge 5, 3, 29), (29, .iconst 1, 1, 30), (30, .ireturn, 1, 31), (31, .aload_n 0, 1, 32), (32, .dup, 1, 33), (33, .getfield 201, 3, 36), (36, .iconst 1, 1, 37), (37, .isub, 1, 38), (38, .putfield 201, 3, 41), (41, .aload_n 0, 1, 42), (42, .iload_n 1, 1, 43), (43, .putfield 216, 3, 46), (46, .iconst 0, 1, 47), (47, .ireturn, 1, 48)]
theorem jd_Model_turnsPage : qm_D prog_11_method_27_code jl_Model_turnsPage := qm_D_of (by decide +kernel)
noncomputable def jf_Model_turnsPage (this : Nat) (p1 : Int32) : qm_M Int32 :=
  mB (mGt this 33) fun x1 =>
  mB (mPt this 33 (x1 + 1)) fun _ =>
  mB (mLd (qm_rf this 0) 1) fun x2 =>
  mB (mPt this 34 x2) fun _ =>
  mB (mGt this 33) fun x3 =>
  if 40 ≤ x3 then
    mB (mGt this 33) fun x4 =>
    mB (mPt this 33 (x4 - 1)) fun _ =>
    mB (mPt this 35 p1) fun _ =>
    mP 0
  else
    mP 1
set_option maxRecDepth 20000 in
set_option maxHeartbeats 4000000 in
theorem jb_Model_turnsPage {X : qm_X} (hX : qm_ok X qr_Model prog_11_method_27_code 2 0 0 jl_Model_turnsPage) {r0 : Int32} {σ0 : qm_Mem} (hR : qm_RI X r0 σ0 .boolean) (this : Nat) (p1 : Int32) (hthis : (qm_kd this).1 = 19) : qm_B X (jf_Model_turnsPage this p1) 0 [some (.ref (qx_ad X this)), some (.int p1)] [] (fun r σ1 => r = r0 ∧ σ1 = σ0) := by
  unfold jf_Model_turnsPage
  refine qb_aload_n hX 0 rfl rfl ?_
  refine qb_dup hX 1 rfl rfl ?_
  refine qb_get hX 2 rfl fl_Model_201 hthis rfl (fun x1 => ?_)
  refine qb_iconst hX 3 1 rfl (by decide) ?_
  refine qb_iadd hX 4 rfl ?_
  refine qb_put hX 5 rfl fp_Model_201 hthis ?_
  refine qb_aload_n hX 6 rfl rfl ?_
  refine qb_aload_n hX 7 rfl rfl ?_
  refine qb_getR hX 8 rfl fl_Model_7 hthis rfl ?_
  refine qb_iconst hX 9 1 rfl (by decide) ?_
  refine qb_iald hX 10 rfl (kf_Model_0 hthis) (fun x2 => ?_)
  refine qb_put hX 11 rfl fp_Model_210 hthis ?_
  refine qb_aload_n hX 12 rfl rfl ?_
  refine qb_get hX 13 rfl fl_Model_201 hthis rfl (fun x3 => ?_)
  refine qb_bipush hX 14 40 rfl (by decide) ?_
  refine qb_icge hX 15 31 rfl (by decide) ?_ ?_
  ·
    refine qb_aload_n hX 18 rfl rfl ?_
    refine qb_dup hX 19 rfl rfl ?_
    refine qb_get hX 20 rfl fl_Model_201 hthis rfl (fun x4 => ?_)
    refine qb_iconst hX 21 1 rfl (by decide) ?_
    refine qb_isub hX 22 rfl ?_
    refine qb_put hX 23 rfl fp_Model_201 hthis ?_
    refine qb_aload_n hX 24 rfl rfl ?_
    refine qb_iload_n hX 25 rfl rfl ?_
    refine qb_put hX 26 rfl fp_Model_216 hthis ?_
    refine qb_iconst hX 27 0 rfl (by decide) ?_
    exact qb_zret1 hX 28 rfl hR (by decide) (fun _ h => h)
  ·
    refine qb_iconst hX 16 1 rfl (by decide) ?_
    exact qb_zret1 hX 17 rfl hR (by decide) (fun _ h => h)
theorem jm_Model_turnsPage {l : Launch} {G : qm_G} (hG : qm_GI G) (this : Nat) (p1 : Int32) (hthis : (qm_kd this).1 = 19) : qm_MI l G jy_Model_turnsPage prog_11_method_27_code 2 (some .boolean) 0 0 [.ref (G.1 this), .int p1] (jf_Model_turnsPage this p1) :=
  qm_metI (by decide +kernel) jd_Model_turnsPage (fun v hv => by simp only [List.mem_cons, List.not_mem_nil, or_false] at hv; rcases hv with rfl | rfl <;> rfl) (by exact Nat.le_of_ble_eq_true rfl) hG rfl (fun X hl hg hX r0 σ0 hR => by subst hl; subst hg; exact jb_Model_turnsPage hX hR this p1 hthis)
def jl_Model_poursSpan : List qm_I := [(0, .aload_n 0, 1, 1), (1, .getfield 50, 3, 4), (4, .iload_n 1, 1, 5), (5, .iaload, 1, 6), (6, .aload_n 0, 1, 7), (7, .getfield 7, 3, 10), (10, .bipush 7, 2, 12), (12, .iaload, 1, 13), (13, .iadd, 1, 14), (14, .aload_n 0, 1, 15), (15, .getfield 210, 3, 18), (18, .if_icmp .le 31, 3, 21), (21, .aload_n 0, 1, 22), (22, .getfield 210, 3, 25), (25, .aload_n 0, 1, 26), (26, .getfield 7, 3, 29), (29, .iconst 1, 1, 30), (30, .iaload, 1, 31), (31, .if_icmp .ge 18, 3, 34), (34, .aload_n 0, 1, 35), (35, .aload_n 0, 1, 36), (36, .getfield 47, 3, 39), (39, .iload_n 1, 1, 40), (40, .iaload, 1, 41), (41, .invokevirtual 219, 3, 44), (44, .ifCond .ne (-44), 3, 47), (47, .iconst 0, 1, 48), (48, .ireturn, 1, 49), (49, .aload_n 0, 1, 50), (50, .getfield 98, 3, 53), (53, .iload_n 1, 1, 54), (54, .aload_n 0, 1, 55), (55, .getfield 201, 3, 58), (58, .iastore, 1, 59), (59, .aload_n 0, 1, 60), (60, .getfield 101, 3, 63), (63, .iload_n 1, 1, 64), (64, .aload_n 0, 1, 65), (65, .getfield 7, 3, 68), (68, .iconst 1, 1, 69), (69, .iaload, 1, 70), (70, .aload_n 0, 1, 71), (71, .getfield 210, 3, 74), (74, .isub, 1, 75), (75, .iastore, 1, 76), (76, .aload_n 0, 1, 77), (77, .aload_n 0, 1, 78), (78, .getfield 210, 3, 81), (81, .aload_n 0, 1, 82), (82, .getfield 50, 3, 85), (85, .iload_n 1, 1, 86), (86, .iaload, 1, 87), (87, .if_icmp .le 17, 3, 90), (90, .aload_n 0, 1, 91), (91, .getfield 210, 3, 94), (94, .aload_n 0, 1, 95), (95, .getfield 50, 3, 98), (98, .iload_n 1, 1, 99), (99, .iaload, 1, 100), (100, .isub, 1, 101), (101, .goto 4, 3, 104), (104, .iconst 0, 1, 105), (105, .putfield 210, 3, 108), (108, .iconst 1, 1, 109), (109, .ireturn, 1, 110)]
theorem jd_Model_poursSpan : qm_D prog_11_method_28_code jl_Model_poursSpan := qm_D_of (by decide +kernel)
noncomputable def jf_Model_poursSpan (this : Nat) (p1 : Int32) : qm_M Int32 :=
  mB (α := (Unit ⊕ Int32)) (
    mW (S := Unit) (α := (Unit ⊕ Int32)) (fun s2 =>
      mB (mLd (qm_rf this 15) p1) fun x3 =>
      mB (mLd (qm_rf this 0) 7) fun x4 =>
      mB (mGt this 34) fun x5 =>
      if (x3 + x4) ≤ x5 then
        mP (Sum.inr (Sum.inl ()))
      else
        mB (mGt this 34) fun x6 =>
        mB (mLd (qm_rf this 0) 1) fun x7 =>
        if x7 ≤ x6 then
          mP (Sum.inr (Sum.inl ()))
        else
          mB (mLd (qm_rf this 14) p1) fun x8 =>
          mB (jf_Model_turnsPage this x8) fun x9 =>
          if ¬ x9 = 0 then
            mP (Sum.inl ())
          else
            mP (Sum.inr (Sum.inr 0))) ()) (Sum.elim (fun s1 =>
    mB (mGt this 33) fun x10 =>
    mB (mSt (qm_rf this 38) p1 x10) fun _ =>
    mB (mLd (qm_rf this 0) 1) fun x11 =>
    mB (mGt this 34) fun x12 =>
    mB (mSt (qm_rf this 39) p1 (x11 - x12)) fun _ =>
    mB (mGt this 34) fun x13 =>
    mB (mLd (qm_rf this 15) p1) fun x14 =>
    if x13 ≤ x14 then
      mB (mPt this 34 0) fun _ =>
      mP 1
    else
      mB (mGt this 34) fun x15 =>
      mB (mLd (qm_rf this 15) p1) fun x16 =>
      mB (mPt this 34 (x15 - x16)) fun _ =>
      mP 1) mP)
set_option maxRecDepth 20000 in
set_option maxHeartbeats 4000000 in
theorem jb_Model_poursSpan {X : qm_X} (hX : qm_ok X qr_Model prog_11_method_28_code 2 1 21 jl_Model_poursSpan) {r0 : Int32} {σ0 : qm_Mem} (hR : qm_RI X r0 σ0 .boolean) (this : Nat) (p1 : Int32) (hthis : (qm_kd this).1 = 19) : qm_B X (jf_Model_poursSpan this p1) 0 [some (.ref (qx_ad X this)), some (.int p1)] [] (fun r σ1 => r = r0 ∧ σ1 = σ0) := by
  unfold jf_Model_poursSpan
  refine qb_join2 49 (fun s1 => [some (.ref (qx_ad X this)), some (.int p1)]) (fun s1 => []) ?_ ?_
  ·
    refine qb_loopw (()) (fun s2 => [some (.ref (qx_ad X this)), some (.int p1)]) (qw_s (qw_s (qw_0))) (fun s2 => ?_)
    refine qb_aload_n hX 0 rfl rfl ?_
    refine qb_getR hX 1 rfl fl_Model_50 hthis rfl ?_
    refine qb_iload_n hX 2 rfl rfl ?_
    refine qb_iald hX 3 rfl (kf_Model_15 hthis) (fun x3 => ?_)
    refine qb_aload_n hX 4 rfl rfl ?_
    refine qb_getR hX 5 rfl fl_Model_7 hthis rfl ?_
    refine qb_bipush hX 6 7 rfl (by decide) ?_
    refine qb_iald hX 7 rfl (kf_Model_0 hthis) (fun x4 => ?_)
    refine qb_iadd hX 8 rfl ?_
    refine qb_aload_n hX 9 rfl rfl ?_
    refine qb_get hX 10 rfl fl_Model_210 hthis rfl (fun x5 => ?_)
    refine qb_icle hX 11 49 rfl (by decide) ?_ ?_
    ·
      exact qb_exit (fun σ h => qj_wk (ρ' := [some (.ref (qx_ad X this)), some (.int p1)]) (qw_s (qw_s (qw_0))) h)
    ·
      refine qb_aload_n hX 12 rfl rfl ?_
      refine qb_get hX 13 rfl fl_Model_210 hthis rfl (fun x6 => ?_)
      refine qb_aload_n hX 14 rfl rfl ?_
      refine qb_getR hX 15 rfl fl_Model_7 hthis rfl ?_
      refine qb_iconst hX 16 1 rfl (by decide) ?_
      refine qb_iald hX 17 rfl (kf_Model_0 hthis) (fun x7 => ?_)
      refine qb_icge hX 18 49 rfl (by decide) ?_ ?_
      ·
        exact qb_exit (fun σ h => qj_wk (ρ' := [some (.ref (qx_ad X this)), some (.int p1)]) (qw_s (qw_s (qw_0))) h)
      ·
        refine qb_aload_n hX 19 rfl rfl ?_
        refine qb_aload_n hX 20 rfl rfl ?_
        refine qb_getR hX 21 rfl fl_Model_47 hthis rfl ?_
        refine qb_iload_n hX 22 rfl rfl ?_
        refine qb_iald hX 23 rfl (kf_Model_14 hthis) (fun x8 => ?_)
        refine qb_callI hX 24 rfl cv_Model_219 (jm_Model_turnsPage (qk_GI hX) this x8 hthis ) (ci := 9) hthis ⟨rfl, rfl, rfl, by decide, by decide⟩ rfl (by exact Nat.le_of_ble_eq_true rfl) (fun x9 => ?_)
        refine qb_ifne hX 25 0 rfl (by decide) ?_ ?_
        ·
          exact qb_exit (fun σ h => qj_wk (ρ' := [some (.ref (qx_ad X this)), some (.int p1)]) (qw_s (qw_s (qw_0))) h)
        ·
          refine qb_iconst hX 26 0 rfl (by decide) ?_
          exact qb_zret1 hX 27 rfl hR (by decide) (fun _ h => h)
  · intro s1
    refine qb_aload_n hX 28 rfl rfl ?_
    refine qb_getR hX 29 rfl fl_Model_98 hthis rfl ?_
    refine qb_iload_n hX 30 rfl rfl ?_
    refine qb_aload_n hX 31 rfl rfl ?_
    refine qb_get hX 32 rfl fl_Model_201 hthis rfl (fun x10 => ?_)
    refine qb_iast hX 33 rfl (kf_Model_38 hthis) ?_
    refine qb_aload_n hX 34 rfl rfl ?_
    refine qb_getR hX 35 rfl fl_Model_101 hthis rfl ?_
    refine qb_iload_n hX 36 rfl rfl ?_
    refine qb_aload_n hX 37 rfl rfl ?_
    refine qb_getR hX 38 rfl fl_Model_7 hthis rfl ?_
    refine qb_iconst hX 39 1 rfl (by decide) ?_
    refine qb_iald hX 40 rfl (kf_Model_0 hthis) (fun x11 => ?_)
    refine qb_aload_n hX 41 rfl rfl ?_
    refine qb_get hX 42 rfl fl_Model_210 hthis rfl (fun x12 => ?_)
    refine qb_isub hX 43 rfl ?_
    refine qb_iast hX 44 rfl (kf_Model_39 hthis) ?_
    refine qb_aload_n hX 45 rfl rfl ?_
    refine qb_aload_n hX 46 rfl rfl ?_
    refine qb_get hX 47 rfl fl_Model_210 hthis rfl (fun x13 => ?_)
    refine qb_aload_n hX 48 rfl rfl ?_
    refine qb_getR hX 49 rfl fl_Model_50 hthis rfl ?_
    refine qb_iload_n hX 50 rfl rfl ?_
    refine qb_iald hX 51 rfl (kf_Model_15 hthis) (fun x14 => ?_)
    refine qb_icle hX 52 104 rfl (by decide) ?_ ?_
    ·
      refine qb_iconst hX 61 0 rfl (by decide) ?_
      refine qb_put hX 62 rfl fp_Model_210 hthis ?_
      refine qb_iconst hX 63 1 rfl (by decide) ?_
      exact qb_zret1 hX 64 rfl hR (by decide) (fun _ h => h)
    ·
      refine qb_aload_n hX 53 rfl rfl ?_
      refine qb_get hX 54 rfl fl_Model_210 hthis rfl (fun x15 => ?_)
      refine qb_aload_n hX 55 rfl rfl ?_
      refine qb_getR hX 56 rfl fl_Model_50 hthis rfl ?_
      refine qb_iload_n hX 57 rfl rfl ?_
      refine qb_iald hX 58 rfl (kf_Model_15 hthis) (fun x16 => ?_)
      refine qb_isub hX 59 rfl ?_
      refine qb_goto hX 60 (tgt := 105) rfl (by decide) ?_
      refine qb_put hX 62 rfl fp_Model_210 hthis ?_
      refine qb_iconst hX 63 1 rfl (by decide) ?_
      exact qb_zret1 hX 64 rfl hR (by decide) (fun _ h => h)
theorem jm_Model_poursSpan {l : Launch} {G : qm_G} (hG : qm_GI G) (this : Nat) (p1 : Int32) (hthis : (qm_kd this).1 = 19) : qm_MI l G jy_Model_poursSpan prog_11_method_28_code 2 (some .boolean) 1 21 [.ref (G.1 this), .int p1] (jf_Model_poursSpan this p1) :=
  qm_metI (by decide +kernel) jd_Model_poursSpan (fun v hv => by simp only [List.mem_cons, List.not_mem_nil, or_false] at hv; rcases hv with rfl | rfl <;> rfl) (by exact Nat.le_of_ble_eq_true rfl) hG rfl (fun X hl hg hX r0 σ0 hR => by subst hl; subst hg; exact jb_Model_poursSpan hX hR this p1 hthis)
def jl_Model_isGood : List qm_I := [(0, .iload_n 2, 1, 1), (1, .aload_n 0, 1, 2), (2, .getfield 204, 3, 5), (5, .if_icmp .le 12, 3, 8), (8, .aload_n 0, 1, 9), (9, .iload_n 1, 1, 10), (10, .iload_n 2, 1, 11), (11, .invokevirtual 182, 3, 14), (14, .ifCond .eq 21, 3, 17), (17, .aload_n 0, 1, 18), (18, .aload_n 0, 1, 19), (19, .getfield 204, 3, 22), (22, .iload_n 2, 1, 23), (23, .aload_n 0, 1, 24), (24, .getfield 207, 3, 27), (27, .iload 4, 2, 29), (29, .invokevirtual 235, 3, 32), (32, .ifCond .ne 5, 3, 35), (35, .iconst 0, 1, 36), (36, .ireturn, 1, 37), (37, .aload_n 0, 1, 38), (38, .getfield 207, 3, 41), (41, .aload_n 0, 1, 42), (42, .aload_n 0, 1, 43), (43, .getfield 204, 3, 46), (46, .iload_n 2, 1, 47), (47, .invokevirtual 172, 3, 50), (50, .iadd, 1, 51), (51, .aload_n 0, 1, 52), (52, .aload_n 0, 1, 53), (53, .getfield 204, 3, 56), (56, .iload_n 2, 1, 57), (57, .aload_n 0, 1, 58), (58, .getfield 207, 3, 61), (61, .iload 4, 2, 63), (63, .invokevirtual 213, 3, 66), (66, .isub, 1, 67), (67, .aload_n 0, 1, 68), (68, .getfield 68, 3, 71), (71, .iload_n 3, 1, 72), (72, .iload_n 2, 1, 73), (73, .iadd, 1, 74), (74, .iaload, 1, 75), (75, .if_icmp .gt 7, 3, 78), (78, .iconst 1, 1, 79), (79, .goto 4, 3, 82), (82, .iconst 0, 1, 83), (83, .ireturn, 1, 84)]
theorem jd_Model_isGood : qm_D prog_11_method_31_code jl_Model_isGood := qm_D_of (by decide +kernel)
noncomputable def jf_Model_isGood (this : Nat) (p1 : Int32) (p2 : Int32) (p3 : Int32) (p4 : Int32) : qm_M Int32 :=
  mB (mGt this 36) fun x1 =>
  mB (α := (Unit ⊕ Int32)) (
    if p2 ≤ x1 then
      mP (Sum.inl ())
    else
      mB (jf_Model_isEnd this p1 p2) fun x3 =>
      if x3 = 0 then
        mP (Sum.inr 0)
      else
        mP (Sum.inl ())) (Sum.elim (fun s2 =>
    mB (mGt this 36) fun x4 =>
    mB (mGt this 37) fun x5 =>
    mB (jf_Model_canEnd this x4 p2 x5 p4) fun x6 =>
    if ¬ x6 = 0 then
      mB (mGt this 37) fun x7 =>
      mB (mGt this 36) fun x8 =>
      mB (jf_Model_ownOf this x8 p2) fun x9 =>
      mB (mGt this 36) fun x10 =>
      mB (mGt this 37) fun x11 =>
      mB (jf_Model_standsOf this x10 p2 x11 p4) fun x12 =>
      mB (mLd (qm_rf this 22) (p3 + p2)) fun x13 =>
      if x13 < ((x7 + x9) - x12) then
        mP 0
      else
        mP 1
    else
      mP 0) mP)
set_option maxRecDepth 20000 in
set_option maxHeartbeats 4000000 in
theorem jb_Model_isGood {X : qm_X} (hX : qm_ok X qr_Model prog_11_method_31_code 5 4 95 jl_Model_isGood) {r0 : Int32} {σ0 : qm_Mem} (hR : qm_RI X r0 σ0 .boolean) (this : Nat) (p1 : Int32) (p2 : Int32) (p3 : Int32) (p4 : Int32) (hthis : (qm_kd this).1 = 19) : qm_B X (jf_Model_isGood this p1 p2 p3 p4) 0 [some (.ref (qx_ad X this)), some (.int p1), some (.int p2), some (.int p3), some (.int p4)] [] (fun r σ1 => r = r0 ∧ σ1 = σ0) := by
  unfold jf_Model_isGood
  refine qb_iload_n hX 0 rfl rfl ?_
  refine qb_aload_n hX 1 rfl rfl ?_
  refine qb_get hX 2 rfl fl_Model_204 hthis rfl (fun x1 => ?_)
  refine qb_join2 17 (fun s2 => [some (.ref (qx_ad X this)), none, some (.int p2), some (.int p3), some (.int p4)]) (fun s2 => []) ?_ ?_
  ·
    refine qb_icle hX 3 17 rfl (by decide) ?_ ?_
    ·
      exact qb_exit (fun σ h => qj_wk (ρ' := [some (.ref (qx_ad X this)), none, some (.int p2), some (.int p3), some (.int p4)]) (qw_s (qw_n (qw_s (qw_s (qw_s (qw_0)))))) h)
    ·
      refine qb_aload_n hX 4 rfl rfl ?_
      refine qb_iload_n hX 5 rfl rfl ?_
      refine qb_iload_n hX 6 rfl rfl ?_
      refine qb_callI hX 7 rfl cv_Model_182 (jm_Model_isEnd (qk_GI hX) this p1 p2 hthis ) (ci := 9) hthis ⟨rfl, rfl, rfl, by decide, by decide⟩ rfl (by exact Nat.le_of_ble_eq_true rfl) (fun x3 => ?_)
      refine qb_ifeq hX 8 35 rfl (by decide) ?_ ?_
      ·
        refine qb_iconst hX 18 0 rfl (by decide) ?_
        exact qb_zret1 hX 19 rfl hR (by decide) (fun _ h => h)
      ·
        exact qb_exit (fun σ h => qj_wk (ρ' := [some (.ref (qx_ad X this)), none, some (.int p2), some (.int p3), some (.int p4)]) (qw_s (qw_n (qw_s (qw_s (qw_s (qw_0)))))) h)
  · intro s2
    refine qb_aload_n hX 9 rfl rfl ?_
    refine qb_aload_n hX 10 rfl rfl ?_
    refine qb_get hX 11 rfl fl_Model_204 hthis rfl (fun x4 => ?_)
    refine qb_iload_n hX 12 rfl rfl ?_
    refine qb_aload_n hX 13 rfl rfl ?_
    refine qb_get hX 14 rfl fl_Model_207 hthis rfl (fun x5 => ?_)
    refine qb_iload hX 15 rfl rfl ?_
    refine qb_callI hX 16 rfl cv_Model_235 (jm_Model_canEnd (qk_GI hX) this x4 p2 x5 p4 hthis ) (ci := 9) hthis ⟨rfl, rfl, rfl, by decide, by decide⟩ rfl (by exact Nat.le_of_ble_eq_true rfl) (fun x6 => ?_)
    refine qb_ifne hX 17 37 rfl (by decide) ?_ ?_
    ·
      refine qb_aload_n hX 20 rfl rfl ?_
      refine qb_get hX 21 rfl fl_Model_207 hthis rfl (fun x7 => ?_)
      refine qb_aload_n hX 22 rfl rfl ?_
      refine qb_aload_n hX 23 rfl rfl ?_
      refine qb_get hX 24 rfl fl_Model_204 hthis rfl (fun x8 => ?_)
      refine qb_iload_n hX 25 rfl rfl ?_
      refine qb_callI hX 26 rfl cv_Model_172 (jm_Model_ownOf (qk_GI hX) this x8 p2 hthis ) (ci := 9) hthis ⟨rfl, rfl, rfl, by decide, by decide⟩ rfl (by exact Nat.le_of_ble_eq_true rfl) (fun x9 => ?_)
      refine qb_iadd hX 27 rfl ?_
      refine qb_aload_n hX 28 rfl rfl ?_
      refine qb_aload_n hX 29 rfl rfl ?_
      refine qb_get hX 30 rfl fl_Model_204 hthis rfl (fun x10 => ?_)
      refine qb_iload_n hX 31 rfl rfl ?_
      refine qb_aload_n hX 32 rfl rfl ?_
      refine qb_get hX 33 rfl fl_Model_207 hthis rfl (fun x11 => ?_)
      refine qb_iload hX 34 rfl rfl ?_
      refine qb_callI hX 35 rfl cv_Model_213 (jm_Model_standsOf (qk_GI hX) this x10 p2 x11 p4 hthis ) (ci := 9) hthis ⟨rfl, rfl, rfl, by decide, by decide⟩ rfl (by exact Nat.le_of_ble_eq_true rfl) (fun x12 => ?_)
      refine qb_isub hX 36 rfl ?_
      refine qb_aload_n hX 37 rfl rfl ?_
      refine qb_getR hX 38 rfl fl_Model_68 hthis rfl ?_
      refine qb_iload_n hX 39 rfl rfl ?_
      refine qb_iload_n hX 40 rfl rfl ?_
      refine qb_iadd hX 41 rfl ?_
      refine qb_iald hX 42 rfl (kf_Model_22 hthis) (fun x13 => ?_)
      refine qb_icgt hX 43 82 rfl (by decide) ?_ ?_
      ·
        refine qb_iconst hX 46 0 rfl (by decide) ?_
        exact qb_zret1 hX 47 rfl hR (by decide) (fun _ h => h)
      ·
        refine qb_iconst hX 44 1 rfl (by decide) ?_
        refine qb_goto hX 45 (tgt := 83) rfl (by decide) ?_
        exact qb_zret1 hX 47 rfl hR (by decide) (fun _ h => h)
    ·
      refine qb_iconst hX 18 0 rfl (by decide) ?_
      exact qb_zret1 hX 19 rfl hR (by decide) (fun _ h => h)
theorem jm_Model_isGood {l : Launch} {G : qm_G} (hG : qm_GI G) (this : Nat) (p1 : Int32) (p2 : Int32) (p3 : Int32) (p4 : Int32) (hthis : (qm_kd this).1 = 19) : qm_MI l G jy_Model_isGood prog_11_method_31_code 5 (some .boolean) 4 95 [.ref (G.1 this), .int p1, .int p2, .int p3, .int p4] (jf_Model_isGood this p1 p2 p3 p4) :=
  qm_metI (by decide +kernel) jd_Model_isGood (fun v hv => by simp only [List.mem_cons, List.not_mem_nil, or_false] at hv; rcases hv with rfl | rfl | rfl | rfl | rfl <;> rfl) (by exact Nat.le_of_ble_eq_true rfl) hG rfl (fun X hl hg hX r0 σ0 hR => by subst hl; subst hg; exact jb_Model_isGood hX hR this p1 p2 p3 p4 hthis)
def jl_Model_levelsBy : List qm_I := [(0, .aload_n 0, 1, 1), (1, .iload_n 1, 1, 2), (2, .aload_n 0, 1, 3), (3, .getfield 204, 3, 6), (6, .iload_n 2, 1, 7), (7, .invokevirtual 190, 3, 10), (10, .iconst 0, 1, 11), (11, .istore_n 3, 1, 12), (12, .iload_n 3, 1, 13), (13, .aload_n 0, 1, 14), (14, .getfield 7, 3, 17), (17, .iconst 0, 1, 18), (18, .iaload, 1, 19), (19, .if_icmp .ge 60, 3, 22), (22, .bipush 92, 2, 24), (24, .aload_n 0, 1, 25), (25, .getfield 7, 3, 28), (28, .iconst 0, 1, 29), (29, .iaload, 1, 30), (30, .iconst 1, 1, 31), (31, .isub, 1, 32), (32, .iload_n 3, 1, 33), (33, .isub, 1, 34), (34, .imul, 1, 35), (35, .istore 4, 2, 37), (37, .aload_n 0, 1, 38), (38, .iload_n 1, 1, 39), (39, .invokevirtual 179, 3, 42), (42, .istore 5, 2, 44), (44, .aload_n 0, 1, 45), (45, .iload_n 1, 1, 46), (46, .iload 5, 2, 48), (48, .iload 4, 2, 50), (50, .iload_n 2, 1, 51), (51, .invokevirtual 228, 3, 54), (54, .ifCond .ne 9, 3, 57), (57, .iinc 5 (-1), 3, 60), (60, .goto (-16), 3, 63), (63, .aload_n 0, 1, 64), (64, .iload_n 1, 1, 65), (65, .iload_n 3, 1, 66), (66, .iload 5, 2, 68), (68, .iload_n 2, 1, 69), (69, .iconst 1, 1, 70), (70, .invokevirtual 231, 3, 73), (73, .iinc 3 1, 3, 76), (76, .goto (-64), 3, 79), (79, .return_, 1, 80)]
theorem jd_Model_levelsBy : qm_D prog_11_method_30_code jl_Model_levelsBy := qm_D_of (by decide +kernel)
noncomputable def jf_Model_levelsBy (this : Nat) (p1 : Int32) (p2 : Int32) : qm_M Unit :=
  mB (mGt this 36) fun x1 =>
  mB (jf_Model_laysMay this p1 x1 p2) fun _ =>
  mB (α := Unit) (
    mW (S := Int32) (α := Unit) (fun s3 =>
      mB (mLd (qm_rf this 0) 0) fun x4 =>
      if x4 ≤ s3 then
        mP (Sum.inr ())
      else
        mB (mLd (qm_rf this 0) 0) fun x5 =>
        mB (mP (92 * ((x5 - 1) - s3))) fun x6 =>
        mB (jf_Model_endOf this p1) fun x7 =>
        mB (α := Int32) (
          mW (S := Int32) (α := Int32) (fun s9 =>
            mB (jf_Model_isGood this p1 s9 x6 p2) fun x10 =>
            if ¬ x10 = 0 then
              mP (Sum.inr s9)
            else
              mB (mP (s9 + (-1))) fun x11 =>
              mP (Sum.inl x11)) x7) fun s8 =>
        mB (jf_Model_puts this p1 s3 s8 p2 1) fun _ =>
        mB (mP (s3 + 1)) fun x12 =>
        mP (Sum.inl x12)) 0) fun s2 =>
  mP ()
set_option maxRecDepth 20000 in
set_option maxHeartbeats 4000000 in
theorem jb_Model_levelsBy {X : qm_X} (hX : qm_ok X qr_Model prog_11_method_30_code 6 5 128 jl_Model_levelsBy) {σ0 : qm_Mem} (hR : qm_RV X σ0) (this : Nat) (p1 : Int32) (p2 : Int32) (hthis : (qm_kd this).1 = 19) : qm_B X (jf_Model_levelsBy this p1 p2) 0 [some (.ref (qx_ad X this)), some (.int p1), some (.int p2), none, none, none] [] (fun _ σ1 => σ1 = σ0) := by
  unfold jf_Model_levelsBy
  refine qb_aload_n hX 0 rfl rfl ?_
  refine qb_iload_n hX 1 rfl rfl ?_
  refine qb_aload_n hX 2 rfl rfl ?_
  refine qb_get hX 3 rfl fl_Model_204 hthis rfl (fun x1 => ?_)
  refine qb_iload_n hX 4 rfl rfl ?_
  refine qb_callV hX 5 rfl cv_Model_190 (jm_Model_laysMay (qk_GI hX) this p1 x1 p2 hthis ) (ci := 9) hthis ⟨rfl, rfl, rfl, by decide, by decide⟩ rfl (by exact Nat.le_of_ble_eq_true rfl) ?_
  refine qb_iconst hX 6 0 rfl (by decide) ?_
  refine qb_istore_n hX 7 ([some (.ref (qx_ad X this)), some (.int p1), some (.int p2), some (.int 0), none, none]) rfl (by decide) rfl ?_
  refine qb_join 79 (fun s2 => [none, none, none, none, none, none]) (fun s2 => []) ?_ ?_
  ·
    refine qb_loopw (0) (fun s3 => [some (.ref (qx_ad X this)), some (.int p1), some (.int p2), some (.int s3), none, none]) (qw_s (qw_s (qw_s (qw_s (qw_n (qw_n (qw_0))))))) (fun s3 => ?_)
    refine qb_iload_n hX 8 rfl rfl ?_
    refine qb_aload_n hX 9 rfl rfl ?_
    refine qb_getR hX 10 rfl fl_Model_7 hthis rfl ?_
    refine qb_iconst hX 11 0 rfl (by decide) ?_
    refine qb_iald hX 12 rfl (kf_Model_0 hthis) (fun x4 => ?_)
    refine qb_icge hX 13 79 rfl (by decide) ?_ ?_
    ·
      exact qb_exit (fun σ h => qj_wk (ρ' := [none, none, none, none, none, none]) (qw_n (qw_n (qw_n (qw_n (qw_n (qw_n (qw_0))))))) h)
    ·
      refine qb_bipush hX 14 92 rfl (by decide) ?_
      refine qb_aload_n hX 15 rfl rfl ?_
      refine qb_getR hX 16 rfl fl_Model_7 hthis rfl ?_
      refine qb_iconst hX 17 0 rfl (by decide) ?_
      refine qb_iald hX 18 rfl (kf_Model_0 hthis) (fun x5 => ?_)
      refine qb_iconst hX 19 1 rfl (by decide) ?_
      refine qb_isub hX 20 rfl ?_
      refine qb_iload_n hX 21 rfl rfl ?_
      refine qb_isub hX 22 rfl ?_
      refine qb_imul hX 23 rfl ?_
      refine qb_istoreL hX 24 (fun x6 => [some (.ref (qx_ad X this)), some (.int p1), some (.int p2), some (.int s3), some (.int x6), none]) rfl (by decide) (fun _ => rfl) (fun x6 => ?_)
      refine qb_aload_n hX 25 rfl rfl ?_
      refine qb_iload_n hX 26 rfl rfl ?_
      refine qb_callI hX 27 rfl cv_Model_179 (jm_Model_endOf (qk_GI hX) this p1 hthis ) (ci := 9) hthis ⟨rfl, rfl, rfl, by decide, by decide⟩ rfl (by exact Nat.le_of_ble_eq_true rfl) (fun x7 => ?_)
      refine qb_istore hX 28 ([some (.ref (qx_ad X this)), some (.int p1), some (.int p2), some (.int s3), some (.int x6), some (.int x7)]) rfl (by decide) rfl ?_
      refine qb_join 63 (fun s8 => [some (.ref (qx_ad X this)), some (.int p1), some (.int p2), some (.int s3), none, some (.int s8)]) (fun s8 => []) ?_ ?_
      ·
        refine qb_loopw (x7) (fun s9 => [some (.ref (qx_ad X this)), some (.int p1), some (.int p2), some (.int s3), some (.int x6), some (.int s9)]) (qw_s (qw_s (qw_s (qw_s (qw_s (qw_s (qw_0))))))) (fun s9 => ?_)
        refine qb_aload_n hX 29 rfl rfl ?_
        refine qb_iload_n hX 30 rfl rfl ?_
        refine qb_iload hX 31 rfl rfl ?_
        refine qb_iload hX 32 rfl rfl ?_
        refine qb_iload_n hX 33 rfl rfl ?_
        refine qb_callI hX 34 rfl cv_Model_228 (jm_Model_isGood (qk_GI hX) this p1 s9 x6 p2 hthis ) (ci := 9) hthis ⟨rfl, rfl, rfl, by decide, by decide⟩ rfl (by exact Nat.le_of_ble_eq_true rfl) (fun x10 => ?_)
        refine qb_ifne hX 35 63 rfl (by decide) ?_ ?_
        ·
          exact qb_exit (fun σ h => qj_wk (ρ' := [some (.ref (qx_ad X this)), some (.int p1), some (.int p2), some (.int s3), none, some (.int s9)]) (qw_s (qw_s (qw_s (qw_s (qw_n (qw_s (qw_0))))))) h)
        ·
          refine qb_iinc hX 36 (-1) (fun x11 => [some (.ref (qx_ad X this)), some (.int p1), some (.int p2), some (.int s3), some (.int x6), some (.int x11)]) rfl (by decide) (by decide) rfl (fun _ => rfl) (fun x11 => ?_)
          exact qb_exit (fun σ h => qj_goto hX 37 rfl (by decide) (qj_wk (ρ' := [some (.ref (qx_ad X this)), some (.int p1), some (.int p2), some (.int s3), some (.int x6), some (.int x11)]) (qw_s (qw_s (qw_s (qw_s (qw_s (qw_s (qw_0))))))) h))
      · intro s8
        refine qb_aload_n hX 38 rfl rfl ?_
        refine qb_iload_n hX 39 rfl rfl ?_
        refine qb_iload_n hX 40 rfl rfl ?_
        refine qb_iload hX 41 rfl rfl ?_
        refine qb_iload_n hX 42 rfl rfl ?_
        refine qb_iconst hX 43 1 rfl (by decide) ?_
        refine qb_callV hX 44 rfl cv_Model_231 (jm_Model_puts (qk_GI hX) this p1 s3 s8 p2 1 hthis ) (ci := 9) hthis ⟨rfl, rfl, rfl, by decide, by decide⟩ rfl (by exact Nat.le_of_ble_eq_true rfl) ?_
        refine qb_iinc hX 45 1 (fun x12 => [some (.ref (qx_ad X this)), some (.int p1), some (.int p2), some (.int x12), none, some (.int s8)]) rfl (by decide) (by decide) rfl (fun _ => rfl) (fun x12 => ?_)
        exact qb_exit (fun σ h => qj_goto hX 46 rfl (by decide) (qj_wk (ρ' := [some (.ref (qx_ad X this)), some (.int p1), some (.int p2), some (.int x12), none, none]) (qw_s (qw_s (qw_s (qw_s (qw_n (qw_n (qw_0))))))) h))
  · intro s2
    exact qb_vret hX 47 rfl hR (fun _ h => h)
theorem jm_Model_levelsBy {l : Launch} {G : qm_G} (hG : qm_GI G) (this : Nat) (p1 : Int32) (p2 : Int32) (hthis : (qm_kd this).1 = 19) : qm_MV l G jy_Model_levelsBy prog_11_method_30_code 6 5 128 [.ref (G.1 this), .int p1, .int p2] (jf_Model_levelsBy this p1 p2) :=
  qm_metV (by decide +kernel) jd_Model_levelsBy (fun v hv => by simp only [List.mem_cons, List.not_mem_nil, or_false] at hv; rcases hv with rfl | rfl | rfl <;> rfl) (by exact Nat.le_of_ble_eq_true rfl) hG (fun X hl hg hX σ0 hR => by subst hl; subst hg; exact jb_Model_levelsBy hX hR this p1 p2 hthis)
