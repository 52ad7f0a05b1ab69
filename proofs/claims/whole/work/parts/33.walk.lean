def jl_Model_isIn : List qm_I := [(0, .aload_n 0, 1, 1), (1, .iload_n 1, 1, 2), (2, .iconst 0, 1, 3), (3, .invokevirtual 144, 3, 6), (6, .iconst 4, 1, 7), (7, .if_icmp .eq 35, 3, 10), (10, .aload_n 0, 1, 11), (11, .getfield 53, 3, 14), (14, .iload_n 1, 1, 15), (15, .iaload, 1, 16), (16, .aload_n 0, 1, 17), (17, .getfield 148, 3, 20), (20, .if_icmp .ge 22, 3, 23), (23, .aload_n 0, 1, 24), (24, .getfield 41, 3, 27), (27, .aload_n 0, 1, 28), (28, .getfield 53, 3, 31), (31, .iload_n 1, 1, 32), (32, .iaload, 1, 33), (33, .iaload, 1, 34), (34, .iload_n 2, 1, 35), (35, .if_icmp .ne 7, 3, 38), (38, .iconst 1, 1, 39), (39, .goto 4, 3, 42), (42, .iconst 0, 1, 43), (43, .ireturn, 1, 44)]
theorem jd_Model_isIn : qm_D prog_11_method_71_code jl_Model_isIn := qm_D_of (by decide +kernel)
noncomputable def jf_Model_isIn (this : Nat) (p1 : Int32) (p2 : Int32) : qm_M Int32 :=
  mB (jf_Model_of this p1 0) fun x1 =>
  if x1 = 4 then
    mP 0
  else
    mB (mLd (qm_rf this 17) p1) fun x2 =>
    mB (mGt this 13) fun x3 =>
    if x3 ≤ x2 then
      mP 0
    else
      mB (mLd (qm_rf this 17) p1) fun x4 =>
      mB (mLd (qm_rf this 11) x4) fun x5 =>
      if ¬ x5 = p2 then
        mP 0
      else
        mP 1
set_option maxRecDepth 20000 in
set_option maxHeartbeats 4000000 in
theorem jb_Model_isIn {X : qm_X} (hX : qm_ok X qr_Model prog_11_method_71_code 3 1 22 jl_Model_isIn) {r0 : Int32} {σ0 : qm_Mem} (hR : qm_RI X r0 σ0 .boolean) (this : Nat) (p1 : Int32) (p2 : Int32) (hthis : (qm_kd this).1 = 19) : qm_B X (jf_Model_isIn this p1 p2) 0 [some (.ref (qx_ad X this)), some (.int p1), some (.int p2)] [] (fun r σ1 => r = r0 ∧ σ1 = σ0) := by
  unfold jf_Model_isIn
  refine qb_aload_n hX 0 rfl rfl ?_
  refine qb_iload_n hX 1 rfl rfl ?_
  refine qb_iconst hX 2 0 rfl (by decide) ?_
  refine qb_callI hX 3 rfl cv_Model_144 (jm_Model_of (qk_GI hX) this p1 0 hthis ) (ci := 9) hthis ⟨rfl, rfl, rfl, by decide, by decide⟩ rfl (by exact Nat.le_of_ble_eq_true rfl) (fun x1 => ?_)
  refine qb_iconst hX 4 4 rfl (by decide) ?_
  refine qb_iceq hX 5 42 rfl (by decide) ?_ ?_
  ·
    refine qb_iconst hX 24 0 rfl (by decide) ?_
    exact qb_zret1 hX 25 rfl hR (by decide) (fun _ h => h)
  ·
    refine qb_aload_n hX 6 rfl rfl ?_
    refine qb_getR hX 7 rfl fl_Model_53 hthis rfl ?_
    refine qb_iload_n hX 8 rfl rfl ?_
    refine qb_iald hX 9 rfl (kf_Model_17 hthis) (fun x2 => ?_)
    refine qb_aload_n hX 10 rfl rfl ?_
    refine qb_get hX 11 rfl fl_Model_148 hthis rfl (fun x3 => ?_)
    refine qb_icge hX 12 42 rfl (by decide) ?_ ?_
    ·
      refine qb_iconst hX 24 0 rfl (by decide) ?_
      exact qb_zret1 hX 25 rfl hR (by decide) (fun _ h => h)
    ·
      refine qb_aload_n hX 13 rfl rfl ?_
      refine qb_getR hX 14 rfl fl_Model_41 hthis rfl ?_
      refine qb_aload_n hX 15 rfl rfl ?_
      refine qb_getR hX 16 rfl fl_Model_53 hthis rfl ?_
      refine qb_iload_n hX 17 rfl rfl ?_
      refine qb_iald hX 18 rfl (kf_Model_17 hthis) (fun x4 => ?_)
      refine qb_iald hX 19 rfl (kf_Model_11 hthis) (fun x5 => ?_)
      refine qb_iload_n hX 20 rfl rfl ?_
      refine qb_icne hX 21 42 rfl (by decide) ?_ ?_
      ·
        refine qb_iconst hX 24 0 rfl (by decide) ?_
        exact qb_zret1 hX 25 rfl hR (by decide) (fun _ h => h)
      ·
        refine qb_iconst hX 22 1 rfl (by decide) ?_
        refine qb_goto hX 23 (tgt := 43) rfl (by decide) ?_
        exact qb_zret1 hX 25 rfl hR (by decide) (fun _ h => h)
theorem jm_Model_isIn {l : Launch} {G : qm_G} (hG : qm_GI G) (this : Nat) (p1 : Int32) (p2 : Int32) (hthis : (qm_kd this).1 = 19) : qm_MI l G jy_Model_isIn prog_11_method_71_code 3 (some .boolean) 1 22 [.ref (G.1 this), .int p1, .int p2] (jf_Model_isIn this p1 p2) :=
  qm_metI (by decide +kernel) jd_Model_isIn (fun v hv => by simp only [List.mem_cons, List.not_mem_nil, or_false] at hv; rcases hv with rfl | rfl | rfl <;> rfl) (by exact Nat.le_of_ble_eq_true rfl) hG rfl (fun X hl hg hX r0 σ0 hR => by subst hl; subst hg; exact jb_Model_isIn hX hR this p1 p2 hthis)
def jl_Model_tiedOf : List qm_I := [(0, .iconst 0, 1, 1), (1, .istore_n 2, 1, 2), (2, .iconst 0, 1, 3), (3, .istore_n 3, 1, 4), (4, .iload_n 3, 1, 5), (5, .aload_n 0, 1, 6), (6, .invokevirtual 140, 3, 9), (9, .if_icmp .ge 43, 3, 12), (12, .aload_n 0, 1, 13), (13, .iload_n 3, 1, 14), (14, .iload_n 1, 1, 15), (15, .invokevirtual 336, 3, 18), (18, .ifCond .eq 28, 3, 21), (21, .aload_n 0, 1, 22), (22, .iload_n 3, 1, 23), (23, .iconst 4, 1, 24), (24, .invokevirtual 144, 3, 27), (27, .iconst 1, 1, 28), (28, .if_icmp .ne 18, 3, 31), (31, .iload_n 2, 1, 32), (32, .invokestatic 323, 3, 35), (35, .bipush 8, 2, 37), (37, .if_icmp .ge 9, 3, 40), (40, .iload_n 2, 1, 41), (41, .iconst 1, 1, 42), (42, .iload_n 3, 1, 43), (43, .ishl, 1, 44), (44, .ior, 1, 45), (45, .istore_n 2, 1, 46), (46, .iinc 3 1, 3, 49), (49, .goto (-45), 3, 52), (52, .iload_n 2, 1, 53), (53, .ireturn, 1, 54)]
theorem jd_Model_tiedOf : qm_D prog_11_method_72_code jl_Model_tiedOf := qm_D_of (by decide +kernel)
noncomputable def jf_Model_tiedOf (this : Nat) (p1 : Int32) : qm_M Int32 :=
  mB (α := Int32) (
    mW (S := Int32 × Int32) (α := Int32) (fun s2 =>
      mB (jf_Model_blocks this) fun x3 =>
      if x3 ≤ s2.2 then
        mP (Sum.inr s2.1)
      else
        mB (jf_Model_isIn this s2.2 p1) fun x4 =>
        mB (α := Int32) (
          if x4 = 0 then
            mP s2.1
          else
            mB (jf_Model_of this s2.2 4) fun x6 =>
            if ¬ x6 = 1 then
              mP s2.1
            else
              mB (jf_Model_bits s2.1) fun x7 =>
              if 8 ≤ x7 then
                mP s2.1
              else
                mB (mP (s2.1 ||| (1 <<< (s2.2 &&& 31)))) fun x8 =>
                mP x8) fun s5 =>
        mB (mP (s2.2 + 1)) fun x9 =>
        mP (Sum.inl (s5, x9))) (0, 0)) fun s1 =>
  mP s1
set_option maxRecDepth 20000 in
set_option maxHeartbeats 4000000 in
theorem jb_Model_tiedOf {X : qm_X} (hX : qm_ok X qr_Model prog_11_method_72_code 4 2 44 jl_Model_tiedOf) {r0 : Int32} {σ0 : qm_Mem} (hR : qm_RI X r0 σ0 .int) (this : Nat) (p1 : Int32) (hthis : (qm_kd this).1 = 19) : qm_B X (jf_Model_tiedOf this p1) 0 [some (.ref (qx_ad X this)), some (.int p1), none, none] [] (fun r σ1 => r = r0 ∧ σ1 = σ0) := by
  unfold jf_Model_tiedOf
  refine qb_iconst hX 0 0 rfl (by decide) ?_
  refine qb_istore_n hX 1 ([some (.ref (qx_ad X this)), some (.int p1), some (.int 0), none]) rfl (by decide) rfl ?_
  refine qb_iconst hX 2 0 rfl (by decide) ?_
  refine qb_istore_n hX 3 ([some (.ref (qx_ad X this)), some (.int p1), some (.int 0), some (.int 0)]) rfl (by decide) rfl ?_
  refine qb_join 52 (fun s1 => [none, none, some (.int s1), none]) (fun s1 => []) ?_ ?_
  ·
    refine qb_loopw ((0, 0)) (fun s2 => [some (.ref (qx_ad X this)), some (.int p1), some (.int s2.1), some (.int s2.2)]) (qw_s (qw_s (qw_s (qw_s (qw_0))))) (fun s2 => ?_)
    refine qb_iload_n hX 4 rfl rfl ?_
    refine qb_aload_n hX 5 rfl rfl ?_
    refine qb_callI hX 6 rfl cv_Model_140 (jm_Model_blocks (qk_GI hX) this  hthis ) (ci := 9) hthis ⟨rfl, rfl, rfl, by decide, by decide⟩ rfl (by exact Nat.le_of_ble_eq_true rfl) (fun x3 => ?_)
    refine qb_icge hX 7 52 rfl (by decide) ?_ ?_
    ·
      exact qb_exit (fun σ h => qj_wk (ρ' := [none, none, some (.int s2.1), none]) (qw_n (qw_n (qw_s (qw_n (qw_0))))) h)
    ·
      refine qb_aload_n hX 8 rfl rfl ?_
      refine qb_iload_n hX 9 rfl rfl ?_
      refine qb_iload_n hX 10 rfl rfl ?_
      refine qb_callI hX 11 rfl cv_Model_336 (jm_Model_isIn (qk_GI hX) this s2.2 p1 hthis ) (ci := 9) hthis ⟨rfl, rfl, rfl, by decide, by decide⟩ rfl (by exact Nat.le_of_ble_eq_true rfl) (fun x4 => ?_)
      refine qb_join 46 (fun s5 => [some (.ref (qx_ad X this)), some (.int p1), some (.int s5), some (.int s2.2)]) (fun s5 => []) ?_ ?_
      ·
        refine qb_ifeq hX 12 46 rfl (by decide) ?_ ?_
        ·
          exact qb_exit (fun σ h => qj_wk (ρ' := [some (.ref (qx_ad X this)), some (.int p1), some (.int s2.1), some (.int s2.2)]) (qw_s (qw_s (qw_s (qw_s (qw_0))))) h)
        ·
          refine qb_aload_n hX 13 rfl rfl ?_
          refine qb_iload_n hX 14 rfl rfl ?_
          refine qb_iconst hX 15 4 rfl (by decide) ?_
          refine qb_callI hX 16 rfl cv_Model_144 (jm_Model_of (qk_GI hX) this s2.2 4 hthis ) (ci := 9) hthis ⟨rfl, rfl, rfl, by decide, by decide⟩ rfl (by exact Nat.le_of_ble_eq_true rfl) (fun x6 => ?_)
          refine qb_iconst hX 17 1 rfl (by decide) ?_
          refine qb_icne hX 18 46 rfl (by decide) ?_ ?_
          ·
            exact qb_exit (fun σ h => qj_wk (ρ' := [some (.ref (qx_ad X this)), some (.int p1), some (.int s2.1), some (.int s2.2)]) (qw_s (qw_s (qw_s (qw_s (qw_0))))) h)
          ·
            refine qb_iload_n hX 19 rfl rfl ?_
            refine qb_calSI hX 20 rfl cv_Model_323 (jm_Model_bits (qk_GI hX) s2.1 ) ⟨rfl, by decide, by decide⟩ rfl (by exact Nat.le_of_ble_eq_true rfl) (fun x7 => ?_)
            refine qb_bipush hX 21 8 rfl (by decide) ?_
            refine qb_icge hX 22 46 rfl (by decide) ?_ ?_
            ·
              exact qb_exit (fun σ h => qj_wk (ρ' := [some (.ref (qx_ad X this)), some (.int p1), some (.int s2.1), some (.int s2.2)]) (qw_s (qw_s (qw_s (qw_s (qw_0))))) h)
            ·
              refine qb_iload_n hX 23 rfl rfl ?_
              refine qb_iconst hX 24 1 rfl (by decide) ?_
              refine qb_iload_n hX 25 rfl rfl ?_
              refine qb_ishl hX 26 rfl ?_
              refine qb_ior hX 27 rfl ?_
              refine qb_istore_nL hX 28 (fun x8 => [some (.ref (qx_ad X this)), some (.int p1), some (.int x8), some (.int s2.2)]) rfl (by decide) (fun _ => rfl) (fun x8 => ?_)
              exact qb_exit (fun σ h => qj_wk (ρ' := [some (.ref (qx_ad X this)), some (.int p1), some (.int x8), some (.int s2.2)]) (qw_s (qw_s (qw_s (qw_s (qw_0))))) h)
      · intro s5
        refine qb_iinc hX 29 1 (fun x9 => [some (.ref (qx_ad X this)), some (.int p1), some (.int s5), some (.int x9)]) rfl (by decide) (by decide) rfl (fun _ => rfl) (fun x9 => ?_)
        exact qb_exit (fun σ h => qj_goto hX 30 rfl (by decide) (qj_wk (ρ' := [some (.ref (qx_ad X this)), some (.int p1), some (.int s5), some (.int x9)]) (qw_s (qw_s (qw_s (qw_s (qw_0))))) h))
  · intro s1
    refine qb_iload_n hX 31 rfl rfl ?_
    exact qb_iret hX 32 rfl hR (fun _ h => h)
theorem jm_Model_tiedOf {l : Launch} {G : qm_G} (hG : qm_GI G) (this : Nat) (p1 : Int32) (hthis : (qm_kd this).1 = 19) : qm_MI l G jy_Model_tiedOf prog_11_method_72_code 4 (some .int) 2 44 [.ref (G.1 this), .int p1] (jf_Model_tiedOf this p1) :=
  qm_metI (by decide +kernel) jd_Model_tiedOf (fun v hv => by simp only [List.mem_cons, List.not_mem_nil, or_false] at hv; rcases hv with rfl | rfl <;> rfl) (by exact Nat.le_of_ble_eq_true rfl) hG rfl (fun X hl hg hX r0 σ0 hR => by subst hl; subst hg; exact jb_Model_tiedOf hX hR this p1 hthis)
def jl_Model_has : List qm_I := [(0, .iload_n 0, 1, 1), (1, .iload_n 1, 1, 2), (2, .ishr, 1, 3), (3, .iconst 1, 1, 4), (4, .iand, 1, 5), (5, .iconst 1, 1, 6), (6, .if_icmp .ne 7, 3, 9), (9, .iconst 1, 1, 10), (10, .goto 4, 3, 13), (13, .iconst 0, 1, 14), (14, .ireturn, 1, 15)]
theorem jd_Model_has : qm_D prog_11_method_96_code jl_Model_has := qm_D_of (by decide +kernel)
noncomputable def jf_Model_has (p1 : Int32) (p2 : Int32) : qm_M Int32 :=
  if ¬ ((p1 >>> (p2 &&& 31)) &&& 1) = 1 then
    mP 0
  else
    mP 1
set_option maxRecDepth 20000 in
set_option maxHeartbeats 4000000 in
theorem jb_Model_has {X : qm_X} (hX : qm_ok X qr_Model prog_11_method_96_code 2 0 0 jl_Model_has) {r0 : Int32} {σ0 : qm_Mem} (hR : qm_RI X r0 σ0 .boolean) (p1 : Int32) (p2 : Int32)  : qm_B X (jf_Model_has p1 p2) 0 [some (.int p1), some (.int p2)] [] (fun r σ1 => r = r0 ∧ σ1 = σ0) := by
  unfold jf_Model_has
  refine qb_iload_n hX 0 rfl rfl ?_
  refine qb_iload_n hX 1 rfl rfl ?_
  refine qb_ishr hX 2 rfl ?_
  refine qb_iconst hX 3 1 rfl (by decide) ?_
  refine qb_iand hX 4 rfl ?_
  refine qb_iconst hX 5 1 rfl (by decide) ?_
  refine qb_icne hX 6 13 rfl (by decide) ?_ ?_
  ·
    refine qb_iconst hX 9 0 rfl (by decide) ?_
    exact qb_zret1 hX 10 rfl hR (by decide) (fun _ h => h)
  ·
    refine qb_iconst hX 7 1 rfl (by decide) ?_
    refine qb_goto hX 8 (tgt := 14) rfl (by decide) ?_
    exact qb_zret1 hX 10 rfl hR (by decide) (fun _ h => h)
theorem jm_Model_has {l : Launch} {G : qm_G} (hG : qm_GI G) (p1 : Int32) (p2 : Int32)  : qm_MI l G jy_Model_has prog_11_method_96_code 2 (some .boolean) 0 0 [.int p1, .int p2] (jf_Model_has p1 p2) :=
  qm_metI (by decide +kernel) jd_Model_has (fun v hv => by simp only [List.mem_cons, List.not_mem_nil, or_false] at hv; rcases hv with rfl | rfl <;> rfl) (by exact Nat.le_of_ble_eq_true rfl) hG rfl (fun X hl hg hX r0 σ0 hR => by subst hl; subst hg; exact jb_Model_has hX hR p1 p2 )
def jl_Model_fitsWithout : List qm_I := [(0, .iconst 0, 1, 1), (1, .istore 4, 2, 3), (3, .iload 4, 2, 5), (5, .aload_n 0, 1, 6), (6, .invokevirtual 140, 3, 9), (9, .if_icmp .ge 34, 3, 12), (12, .iload_n 2, 1, 13), (13, .iload 4, 2, 15), (15, .invokestatic 339, 3, 18), (18, .ifCond .eq 19, 3, 21), (21, .aload_n 0, 1, 22), (22, .getfield 7, 3, 25), (25, .bipush 9, 2, 27), (27, .bipush 16, 2, 29), (29, .iload 4, 2, 31), (31, .imul, 1, 32), (32, .iadd, 1, 33), (33, .iconst 4, 1, 34), (34, .iadd, 1, 35), (35, .iconst 0, 1, 36), (36, .iastore, 1, 37), (37, .iinc 4 1, 3, 40), (40, .goto (-37), 3, 43), (43, .aload_n 0, 1, 44), (44, .invokevirtual 245, 3, 47), (47, .aload_n 0, 1, 48), (48, .iload_n 1, 1, 49), (49, .aload_n 0, 1, 50), (50, .getfield 47, 3, 53), (53, .iload_n 1, 1, 54), (54, .iaload, 1, 55), (55, .iconst 0, 1, 56), (56, .iload_n 3, 1, 57), (57, .invokevirtual 194, 3, 60), (60, .istore 4, 2, 62), (62, .aload_n 0, 1, 63), (63, .invokevirtual 307, 3, 66), (66, .iload 4, 2, 68), (68, .ireturn, 1, 69)]
theorem jd_Model_fitsWithout : qm_D prog_11_method_73_code jl_Model_fitsWithout := qm_D_of (by decide +kernel)
noncomputable def jf_Model_fitsWithout (this : Nat) (p1 : Int32) (p2 : Int32) (p3 : Int32) : qm_M Int32 :=
  mB (α := Unit) (
    mW (S := Int32) (α := Unit) (fun s2 =>
      mB (jf_Model_blocks this) fun x3 =>
      if x3 ≤ s2 then
        mP (Sum.inr ())
      else
        mB (jf_Model_has p2 s2) fun x4 =>
        mB (α := Unit) (
          if x4 = 0 then
            mP ()
          else
            mB (mSt (qm_rf this 0) ((9 + (16 * s2)) + 4) 0) fun _ =>
            mP ()) fun s5 =>
        mB (mP (s2 + 1)) fun x6 =>
        mP (Sum.inl x6)) 0) fun s1 =>
  mB (jf_Model_lays this) fun _ =>
  mB (mLd (qm_rf this 14) p1) fun x7 =>
  mB (jf_Model_fitsFrom this p1 x7 0 p3) fun x8 =>
  mB (jf_Model_putsBack this) fun _ =>
  mB (mZ x8) fun x9 => mP x9
set_option maxRecDepth 20000 in
set_option maxHeartbeats 4000000 in
theorem jb_Model_fitsWithout {X : qm_X} (hX : qm_ok X qr_Model prog_11_method_73_code 5 6 152 jl_Model_fitsWithout) {r0 : Int32} {σ0 : qm_Mem} (hR : qm_RI X r0 σ0 .boolean) (this : Nat) (p1 : Int32) (p2 : Int32) (p3 : Int32) (hthis : (qm_kd this).1 = 19) : qm_B X (jf_Model_fitsWithout this p1 p2 p3) 0 [some (.ref (qx_ad X this)), some (.int p1), some (.int p2), some (.int p3), none] [] (fun r σ1 => r = r0 ∧ σ1 = σ0) := by
  unfold jf_Model_fitsWithout
  refine qb_iconst hX 0 0 rfl (by decide) ?_
  refine qb_istore hX 1 ([some (.ref (qx_ad X this)), some (.int p1), some (.int p2), some (.int p3), some (.int 0)]) rfl (by decide) rfl ?_
  refine qb_join 43 (fun s1 => [some (.ref (qx_ad X this)), some (.int p1), none, some (.int p3), none]) (fun s1 => []) ?_ ?_
  ·
    refine qb_loopw (0) (fun s2 => [some (.ref (qx_ad X this)), some (.int p1), some (.int p2), some (.int p3), some (.int s2)]) (qw_s (qw_s (qw_s (qw_s (qw_s (qw_0)))))) (fun s2 => ?_)
    refine qb_iload hX 2 rfl rfl ?_
    refine qb_aload_n hX 3 rfl rfl ?_
    refine qb_callI hX 4 rfl cv_Model_140 (jm_Model_blocks (qk_GI hX) this  hthis ) (ci := 9) hthis ⟨rfl, rfl, rfl, by decide, by decide⟩ rfl (by exact Nat.le_of_ble_eq_true rfl) (fun x3 => ?_)
    refine qb_icge hX 5 43 rfl (by decide) ?_ ?_
    ·
      exact qb_exit (fun σ h => qj_wk (ρ' := [some (.ref (qx_ad X this)), some (.int p1), none, some (.int p3), none]) (qw_s (qw_s (qw_n (qw_s (qw_n (qw_0)))))) h)
    ·
      refine qb_iload_n hX 6 rfl rfl ?_
      refine qb_iload hX 7 rfl rfl ?_
      refine qb_calSI hX 8 rfl cv_Model_339 (jm_Model_has (qk_GI hX) p2 s2 ) ⟨rfl, by decide, by decide⟩ rfl (by exact Nat.le_of_ble_eq_true rfl) (fun x4 => ?_)
      refine qb_join 37 (fun s5 => [some (.ref (qx_ad X this)), some (.int p1), some (.int p2), some (.int p3), some (.int s2)]) (fun s5 => []) ?_ ?_
      ·
        refine qb_ifeq hX 9 37 rfl (by decide) ?_ ?_
        ·
          exact qb_exit (fun σ h => qj_wk (ρ' := [some (.ref (qx_ad X this)), some (.int p1), some (.int p2), some (.int p3), some (.int s2)]) (qw_s (qw_s (qw_s (qw_s (qw_s (qw_0)))))) h)
        ·
          refine qb_aload_n hX 10 rfl rfl ?_
          refine qb_getR hX 11 rfl fl_Model_7 hthis rfl ?_
          refine qb_bipush hX 12 9 rfl (by decide) ?_
          refine qb_bipush hX 13 16 rfl (by decide) ?_
          refine qb_iload hX 14 rfl rfl ?_
          refine qb_imul hX 15 rfl ?_
          refine qb_iadd hX 16 rfl ?_
          refine qb_iconst hX 17 4 rfl (by decide) ?_
          refine qb_iadd hX 18 rfl ?_
          refine qb_iconst hX 19 0 rfl (by decide) ?_
          refine qb_iast hX 20 rfl (kf_Model_0 hthis) ?_
          exact qb_exit (fun σ h => qj_wk (ρ' := [some (.ref (qx_ad X this)), some (.int p1), some (.int p2), some (.int p3), some (.int s2)]) (qw_s (qw_s (qw_s (qw_s (qw_s (qw_0)))))) h)
      · intro s5
        refine qb_iinc hX 21 1 (fun x6 => [some (.ref (qx_ad X this)), some (.int p1), some (.int p2), some (.int p3), some (.int x6)]) rfl (by decide) (by decide) rfl (fun _ => rfl) (fun x6 => ?_)
        exact qb_exit (fun σ h => qj_goto hX 22 rfl (by decide) (qj_wk (ρ' := [some (.ref (qx_ad X this)), some (.int p1), some (.int p2), some (.int p3), some (.int x6)]) (qw_s (qw_s (qw_s (qw_s (qw_s (qw_0)))))) h))
  · intro s1
    refine qb_aload_n hX 23 rfl rfl ?_
    refine qb_callV hX 24 rfl cv_Model_245 (jm_Model_lays (qk_GI hX) this  hthis ) (ci := 9) hthis ⟨rfl, rfl, rfl, by decide, by decide⟩ rfl (by exact Nat.le_of_ble_eq_true rfl) ?_
    refine qb_aload_n hX 25 rfl rfl ?_
    refine qb_iload_n hX 26 rfl rfl ?_
    refine qb_aload_n hX 27 rfl rfl ?_
    refine qb_getR hX 28 rfl fl_Model_47 hthis rfl ?_
    refine qb_iload_n hX 29 rfl rfl ?_
    refine qb_iald hX 30 rfl (kf_Model_14 hthis) (fun x7 => ?_)
    refine qb_iconst hX 31 0 rfl (by decide) ?_
    refine qb_iload_n hX 32 rfl rfl ?_
    refine qb_callI hX 33 rfl cv_Model_194 (jm_Model_fitsFrom (qk_GI hX) this p1 x7 0 p3 hthis ) (ci := 9) hthis ⟨rfl, rfl, rfl, by decide, by decide⟩ rfl (by exact Nat.le_of_ble_eq_true rfl) (fun x8 => ?_)
    refine qb_istore hX 34 ([some (.ref (qx_ad X this)), some (.int p1), none, some (.int p3), some (.int x8)]) rfl (by decide) rfl ?_
    refine qb_aload_n hX 35 rfl rfl ?_
    refine qb_callV hX 36 rfl cv_Model_307 (jm_Model_putsBack (qk_GI hX) this  hthis ) (ci := 9) hthis ⟨rfl, rfl, rfl, by decide, by decide⟩ rfl (by exact Nat.le_of_ble_eq_true rfl) ?_
    refine qb_iload hX 37 rfl rfl ?_
    exact qb_zret hX 38 (a := fun x9 => x9) rfl hR (fun _ h => h)
theorem jm_Model_fitsWithout {l : Launch} {G : qm_G} (hG : qm_GI G) (this : Nat) (p1 : Int32) (p2 : Int32) (p3 : Int32) (hthis : (qm_kd this).1 = 19) : qm_MI l G jy_Model_fitsWithout prog_11_method_73_code 5 (some .boolean) 6 152 [.ref (G.1 this), .int p1, .int p2, .int p3] (jf_Model_fitsWithout this p1 p2 p3) :=
  qm_metI (by decide +kernel) jd_Model_fitsWithout (fun v hv => by simp only [List.mem_cons, List.not_mem_nil, or_false] at hv; rcases hv with rfl | rfl | rfl | rfl <;> rfl) (by exact Nat.le_of_ble_eq_true rfl) hG rfl (fun X hl hg hX r0 σ0 hR => by subst hl; subst hg; exact jb_Model_fitsWithout hX hR this p1 p2 p3 hthis)
def jl_Model_untie : List qm_I := [(0, .aload_n 0, 1, 1), (1, .invokevirtual 245, 3, 4), (4, .aload_n 0, 1, 5), (5, .iload_n 1, 1, 6), (6, .invokevirtual 284, 3, 9), (9, .ifCond .eq 15, 3, 12), (12, .iload_n 2, 1, 13), (13, .i2l, 1, 14), (14, .lconst 0, 1, 15), (15, .ldc2_w 290, 3, 18), (18, .invokestatic 129, 3, 21), (21, .ifCond .ne 5, 3, 24), (24, .iconst (-1), 1, 25), (25, .ireturn, 1, 26), (26, .aload_n 0, 1, 27), (27, .iload_n 1, 1, 28), (28, .invokevirtual 342, 3, 31), (31, .istore_n 3, 1, 32), (32, .aload_n 0, 1, 33), (33, .invokevirtual 304, 3, 36), (36, .bipush (-2), 2, 38), (38, .istore 4, 2, 40), (40, .iconst 0, 1, 41), (41, .istore 5, 2, 43), (43, .iconst 1, 1, 44), (44, .istore 6, 2, 46), (46, .iload 6, 2, 48), (48, .ifCond .eq 61, 3, 51), (51, .iload 4, 2, 53), (53, .bipush (-2), 2, 55), (55, .if_icmp .eq 16, 3, 58), (58, .iload 5, 2, 60), (60, .invokestatic 323, 3, 63), (63, .iload 4, 2, 65), (65, .invokestatic 323, 3, 68), (68, .if_icmp .ge 18, 3, 71), (71, .aload_n 0, 1, 72), (72, .iload_n 1, 1, 73), (73, .iload 5, 2, 75), (75, .iload_n 2, 1, 76), (76, .invokevirtual 345, 3, 79), (79, .ifCond .eq 7, 3, 82), (82, .iload 5, 2, 84), (84, .istore 4, 2, 86), (86, .iload 5, 2, 88), (88, .iload_n 3, 1, 89), (89, .isub, 1, 90), (90, .iload_n 3, 1, 91), (91, .iand, 1, 92), (92, .istore 5, 2, 94), (94, .iload 5, 2, 96), (96, .ifCond .eq 7, 3, 99), (99, .iconst 1, 1, 100), (100, .goto 4, 3, 103), (103, .iconst 0, 1, 104), (104, .istore 6, 2, 106), (106, .goto (-60), 3, 109), (109, .iload 4, 2, 111), (111, .ireturn, 1, 112)]
theorem jd_Model_untie : qm_D prog_11_method_74_code jl_Model_untie := qm_D_of (by decide +kernel)
noncomputable def jf_Model_untie (this : Nat) (p1 : Int32) (p2 : Int32) : qm_M Int32 :=
  mB (jf_Model_lays this) fun _ =>
  mB (jf_Model_isSection this p1) fun x1 =>
  if x1 = 0 then
    mP (-1)
  else
    mB (jf_Model_in (Int32.toInt64 p2) (0 : Int64) (2000 : Int64)) fun x2 =>
    if ¬ x2 = 0 then
      mB (jf_Model_tiedOf this p1) fun x3 =>
      mB (jf_Model_keepsAside this) fun _ =>
      mB (α := Int32) (
        mW (S := Int32 × Int32 × Int32) (α := Int32) (fun s5 =>
          if s5.2.2 = 0 then
            mP (Sum.inr s5.1)
          else
            mB (α := Int32) (
              mB (α := (Unit ⊕ Int32)) (
                if s5.1 = (-2) then
                  mP (Sum.inl ())
                else
                  mB (jf_Model_bits s5.2.1) fun x8 =>
                  mB (jf_Model_bits s5.1) fun x9 =>
                  if x9 ≤ x8 then
                    mP (Sum.inr s5.1)
                  else
                    mP (Sum.inl ())) (Sum.elim (fun s7 =>
                mB (jf_Model_fitsWithout this p1 s5.2.1 p2) fun x10 =>
                if x10 = 0 then
                  mP s5.1
                else
                  mP s5.2.1) mP)) fun s6 =>
            mB (mP ((s5.2.1 - x3) &&& x3)) fun x11 =>
            mB (α := Int32) (
              if x11 = 0 then
                mP 0
              else
                mP 1) fun s12 =>
            mP (Sum.inl (s6, x11, s12))) ((-2), 0, 1)) fun s4 =>
      mP s4
    else
      mP (-1)
set_option maxRecDepth 20000 in
set_option maxHeartbeats 4000000 in
theorem jb_Model_untie {X : qm_X} (hX : qm_ok X qr_Model prog_11_method_74_code 7 7 176 jl_Model_untie) {r0 : Int32} {σ0 : qm_Mem} (hR : qm_RI X r0 σ0 .int) (this : Nat) (p1 : Int32) (p2 : Int32) (hthis : (qm_kd this).1 = 19) : qm_B X (jf_Model_untie this p1 p2) 0 [some (.ref (qx_ad X this)), some (.int p1), some (.int p2), none, none, none, none] [] (fun r σ1 => r = r0 ∧ σ1 = σ0) := by
  unfold jf_Model_untie
  refine qb_aload_n hX 0 rfl rfl ?_
  refine qb_callV hX 1 rfl cv_Model_245 (jm_Model_lays (qk_GI hX) this  hthis ) (ci := 9) hthis ⟨rfl, rfl, rfl, by decide, by decide⟩ rfl (by exact Nat.le_of_ble_eq_true rfl) ?_
  refine qb_aload_n hX 2 rfl rfl ?_
  refine qb_iload_n hX 3 rfl rfl ?_
  refine qb_callI hX 4 rfl cv_Model_284 (jm_Model_isSection (qk_GI hX) this p1 hthis ) (ci := 9) hthis ⟨rfl, rfl, rfl, by decide, by decide⟩ rfl (by exact Nat.le_of_ble_eq_true rfl) (fun x1 => ?_)
  refine qb_ifeq hX 5 24 rfl (by decide) ?_ ?_
  ·
    refine qb_iconst hX 12 (-1) rfl (by decide) ?_
    exact qb_iret hX 13 rfl hR (fun _ h => h)
  ·
    refine qb_iload_n hX 6 rfl rfl ?_
    refine qb_i2l hX 7 rfl ?_
    refine qb_lconst hX 8 0 rfl (by decide) ?_
    refine qb_ldc2w hX 9 2000 rfl kl_Model_290 ?_
    refine qb_calSI hX 10 rfl cv_Model_129 (jm_Model_in (qk_GI hX) (Int32.toInt64 p2) (0 : Int64) (2000 : Int64) ) ⟨rfl, by decide, by decide⟩ rfl (by exact Nat.le_of_ble_eq_true rfl) (fun x2 => ?_)
    refine qb_ifne hX 11 26 rfl (by decide) ?_ ?_
    ·
      refine qb_aload_n hX 14 rfl rfl ?_
      refine qb_iload_n hX 15 rfl rfl ?_
      refine qb_callI hX 16 rfl cv_Model_342 (jm_Model_tiedOf (qk_GI hX) this p1 hthis ) (ci := 9) hthis ⟨rfl, rfl, rfl, by decide, by decide⟩ rfl (by exact Nat.le_of_ble_eq_true rfl) (fun x3 => ?_)
      refine qb_istore_n hX 17 ([some (.ref (qx_ad X this)), some (.int p1), some (.int p2), some (.int x3), none, none, none]) rfl (by decide) rfl ?_
      refine qb_aload_n hX 18 rfl rfl ?_
      refine qb_callV hX 19 rfl cv_Model_304 (jm_Model_keepsAside (qk_GI hX) this  hthis ) (ci := 9) hthis ⟨rfl, rfl, rfl, by decide, by decide⟩ rfl (by exact Nat.le_of_ble_eq_true rfl) ?_
      refine qb_bipush hX 20 (-2) rfl (by decide) ?_
      refine qb_istore hX 21 ([some (.ref (qx_ad X this)), some (.int p1), some (.int p2), some (.int x3), some (.int (-2)), none, none]) rfl (by decide) rfl ?_
      refine qb_iconst hX 22 0 rfl (by decide) ?_
      refine qb_istore hX 23 ([some (.ref (qx_ad X this)), some (.int p1), some (.int p2), some (.int x3), some (.int (-2)), some (.int 0), none]) rfl (by decide) rfl ?_
      refine qb_iconst hX 24 1 rfl (by decide) ?_
      refine qb_istore hX 25 ([some (.ref (qx_ad X this)), some (.int p1), some (.int p2), some (.int x3), some (.int (-2)), some (.int 0), some (.int 1)]) rfl (by decide) rfl ?_
      refine qb_join 109 (fun s4 => [none, none, none, none, some (.int s4), none, none]) (fun s4 => []) ?_ ?_
      ·
        refine qb_loopw (((-2), 0, 1)) (fun s5 => [some (.ref (qx_ad X this)), some (.int p1), some (.int p2), some (.int x3), some (.int s5.1), some (.int s5.2.1), some (.int s5.2.2)]) (qw_s (qw_s (qw_s (qw_s (qw_s (qw_s (qw_s (qw_0)))))))) (fun s5 => ?_)
        refine qb_iload hX 26 rfl rfl ?_
        refine qb_ifeq hX 27 109 rfl (by decide) ?_ ?_
        ·
          exact qb_exit (fun σ h => qj_wk (ρ' := [none, none, none, none, some (.int s5.1), none, none]) (qw_n (qw_n (qw_n (qw_n (qw_s (qw_n (qw_n (qw_0)))))))) h)
        ·
          refine qb_iload hX 28 rfl rfl ?_
          refine qb_bipush hX 29 (-2) rfl (by decide) ?_
          refine qb_join 86 (fun s6 => [some (.ref (qx_ad X this)), some (.int p1), some (.int p2), some (.int x3), some (.int s6), some (.int s5.2.1), none]) (fun s6 => []) ?_ ?_
          ·
            refine qb_join2 71 (fun s7 => [some (.ref (qx_ad X this)), some (.int p1), some (.int p2), some (.int x3), some (.int s5.1), some (.int s5.2.1), none]) (fun s7 => []) ?_ ?_
            ·
              refine qb_iceq hX 30 71 rfl (by decide) ?_ ?_
              ·
                exact qb_exit (fun σ h => qj_wk (ρ' := [some (.ref (qx_ad X this)), some (.int p1), some (.int p2), some (.int x3), some (.int s5.1), some (.int s5.2.1), none]) (qw_s (qw_s (qw_s (qw_s (qw_s (qw_s (qw_n (qw_0)))))))) h)
              ·
                refine qb_iload hX 31 rfl rfl ?_
                refine qb_calSI hX 32 rfl cv_Model_323 (jm_Model_bits (qk_GI hX) s5.2.1 ) ⟨rfl, by decide, by decide⟩ rfl (by exact Nat.le_of_ble_eq_true rfl) (fun x8 => ?_)
                refine qb_iload hX 33 rfl rfl ?_
                refine qb_calSI hX 34 rfl cv_Model_323 (jm_Model_bits (qk_GI hX) s5.1 ) ⟨rfl, by decide, by decide⟩ rfl (by exact Nat.le_of_ble_eq_true rfl) (fun x9 => ?_)
                refine qb_icge hX 35 86 rfl (by decide) ?_ ?_
                ·
                  exact qb_exit (fun σ h => qj_wk (ρ' := [some (.ref (qx_ad X this)), some (.int p1), some (.int p2), some (.int x3), some (.int s5.1), some (.int s5.2.1), none]) (qw_s (qw_s (qw_s (qw_s (qw_s (qw_s (qw_n (qw_0)))))))) h)
                ·
                  exact qb_exit (fun σ h => qj_wk (ρ' := [some (.ref (qx_ad X this)), some (.int p1), some (.int p2), some (.int x3), some (.int s5.1), some (.int s5.2.1), none]) (qw_s (qw_s (qw_s (qw_s (qw_s (qw_s (qw_n (qw_0)))))))) h)
            · intro s7
              refine qb_aload_n hX 36 rfl rfl ?_
              refine qb_iload_n hX 37 rfl rfl ?_
              refine qb_iload hX 38 rfl rfl ?_
              refine qb_iload_n hX 39 rfl rfl ?_
              refine qb_callI hX 40 rfl cv_Model_345 (jm_Model_fitsWithout (qk_GI hX) this p1 s5.2.1 p2 hthis ) (ci := 9) hthis ⟨rfl, rfl, rfl, by decide, by decide⟩ rfl (by exact Nat.le_of_ble_eq_true rfl) (fun x10 => ?_)
              refine qb_ifeq hX 41 86 rfl (by decide) ?_ ?_
              ·
                exact qb_exit (fun σ h => qj_wk (ρ' := [some (.ref (qx_ad X this)), some (.int p1), some (.int p2), some (.int x3), some (.int s5.1), some (.int s5.2.1), none]) (qw_s (qw_s (qw_s (qw_s (qw_s (qw_s (qw_n (qw_0)))))))) h)
              ·
                refine qb_iload hX 42 rfl rfl ?_
                refine qb_istore hX 43 ([some (.ref (qx_ad X this)), some (.int p1), some (.int p2), some (.int x3), some (.int s5.2.1), some (.int s5.2.1), none]) rfl (by decide) rfl ?_
                exact qb_exit (fun σ h => qj_wk (ρ' := [some (.ref (qx_ad X this)), some (.int p1), some (.int p2), some (.int x3), some (.int s5.2.1), some (.int s5.2.1), none]) (qw_s (qw_s (qw_s (qw_s (qw_s (qw_s (qw_n (qw_0)))))))) h)
          · intro s6
            refine qb_iload hX 44 rfl rfl ?_
            refine qb_iload_n hX 45 rfl rfl ?_
            refine qb_isub hX 46 rfl ?_
            refine qb_iload_n hX 47 rfl rfl ?_
            refine qb_iand hX 48 rfl ?_
            refine qb_istoreL hX 49 (fun x11 => [some (.ref (qx_ad X this)), some (.int p1), some (.int p2), some (.int x3), some (.int s6), some (.int x11), none]) rfl (by decide) (fun _ => rfl) (fun x11 => ?_)
            refine qb_iload hX 50 rfl rfl ?_
            refine qb_join 104 (fun s12 => [some (.ref (qx_ad X this)), some (.int p1), some (.int p2), some (.int x3), some (.int s6), some (.int x11), none]) (fun s12 => [.int s12]) ?_ ?_
            ·
              refine qb_ifeq hX 51 103 rfl (by decide) ?_ ?_
              ·
                refine qb_iconst hX 54 0 rfl (by decide) ?_
                exact qb_exit (fun σ h => qj_wk (ρ' := [some (.ref (qx_ad X this)), some (.int p1), some (.int p2), some (.int x3), some (.int s6), some (.int x11), none]) (qw_s (qw_s (qw_s (qw_s (qw_s (qw_s (qw_n (qw_0)))))))) h)
              ·
                refine qb_iconst hX 52 1 rfl (by decide) ?_
                exact qb_exit (fun σ h => qj_goto hX 53 rfl (by decide) (qj_wk (ρ' := [some (.ref (qx_ad X this)), some (.int p1), some (.int p2), some (.int x3), some (.int s6), some (.int x11), none]) (qw_s (qw_s (qw_s (qw_s (qw_s (qw_s (qw_n (qw_0)))))))) h))
            · intro s12
              refine qb_istore hX 55 ([some (.ref (qx_ad X this)), some (.int p1), some (.int p2), some (.int x3), some (.int s6), some (.int x11), some (.int s12)]) rfl (by decide) rfl ?_
              exact qb_exit (fun σ h => qj_goto hX 56 rfl (by decide) (qj_wk (ρ' := [some (.ref (qx_ad X this)), some (.int p1), some (.int p2), some (.int x3), some (.int s6), some (.int x11), some (.int s12)]) (qw_s (qw_s (qw_s (qw_s (qw_s (qw_s (qw_s (qw_0)))))))) h))
      · intro s4
        refine qb_iload hX 57 rfl rfl ?_
        exact qb_iret hX 58 rfl hR (fun _ h => h)
    ·
      refine qb_iconst hX 12 (-1) rfl (by decide) ?_
      exact qb_iret hX 13 rfl hR (fun _ h => h)
theorem jm_Model_untie {l : Launch} {G : qm_G} (hG : qm_GI G) (this : Nat) (p1 : Int32) (p2 : Int32) (hthis : (qm_kd this).1 = 19) : qm_MI l G jy_Model_untie prog_11_method_74_code 7 (some .int) 7 176 [.ref (G.1 this), .int p1, .int p2] (jf_Model_untie this p1 p2) :=
  qm_metI (by decide +kernel) jd_Model_untie (fun v hv => by simp only [List.mem_cons, List.not_mem_nil, or_false] at hv; rcases hv with rfl | rfl | rfl <;> rfl) (by exact Nat.le_of_ble_eq_true rfl) hG rfl (fun X hl hg hX r0 σ0 hR => by subst hl; subst hg; exact jb_Model_untie hX hR this p1 p2 hthis)
def jl_Model_narrow : List qm_I := [(0, .aload_n 0, 1, 1), (1, .invokevirtual 245, 3, 4), (4, .aload_n 0, 1, 5), (5, .iload_n 1, 1, 6), (6, .invokevirtual 284, 3, 9), (9, .ifCond .eq 15, 3, 12), (12, .iload_n 2, 1, 13), (13, .i2l, 1, 14), (14, .lconst 0, 1, 15), (15, .ldc2_w 290, 3, 18), (18, .invokestatic 129, 3, 21), (21, .ifCond .ne 5, 3, 24), (24, .iconst (-1), 1, 25), (25, .ireturn, 1, 26), (26, .aload_n 0, 1, 27), (27, .getfield 7, 3, 30), (30, .iconst 0, 1, 31), (31, .iaload, 1, 32), (32, .istore_n 3, 1, 33), (33, .bipush (-2), 2, 35), (35, .istore 4, 2, 37), (37, .iconst 1, 1, 38), (38, .istore 5, 2, 40), (40, .iload 5, 2, 42), (42, .iconst 5, 1, 43), (43, .if_icmp .gt 49, 3, 46), (46, .iload 4, 2, 48), (48, .bipush (-2), 2, 50), (50, .if_icmp .ne 42, 3, 53), (53, .aload_n 0, 1, 54), (54, .getfield 7, 3, 57), (57, .iconst 0, 1, 58), (58, .iload 5, 2, 60), (60, .iastore, 1, 61), (61, .aload_n 0, 1, 62), (62, .iload_n 1, 1, 63), (63, .aload_n 0, 1, 64), (64, .getfield 47, 3, 67), (67, .iload_n 1, 1, 68), (68, .iaload, 1, 69), (69, .iconst 0, 1, 70), (70, .iload_n 2, 1, 71), (71, .invokevirtual 194, 3, 74), (74, .ifCond .eq 8, 3, 77), (77, .iload 5, 2, 79), (79, .goto 5, 3, 82), (82, .bipush (-2), 2, 84), (84, .istore 4, 2, 86), (86, .iinc 5 1, 3, 89), (89, .goto (-49), 3, 92), (92, .aload_n 0, 1, 93), (93, .getfield 7, 3, 96), (96, .iconst 0, 1, 97), (97, .iload_n 3, 1, 98), (98, .iastore, 1, 99), (99, .iload 4, 2, 101), (101, .ireturn, 1, 102)]
theorem jd_Model_narrow : qm_D prog_11_method_75_code jl_Model_narrow := qm_D_of (by decide +kernel)
noncomputable def jf_Model_narrow (this : Nat) (p1 : Int32) (p2 : Int32) : qm_M Int32 :=
  mB (jf_Model_lays this) fun _ =>
  mB (jf_Model_isSection this p1) fun x1 =>
  if x1 = 0 then
    mP (-1)
  else
    mB (jf_Model_in (Int32.toInt64 p2) (0 : Int64) (2000 : Int64)) fun x2 =>
    if ¬ x2 = 0 then
      mB (mLd (qm_rf this 0) 0) fun x3 =>
      mB (α := Int32) (
        mW (S := Int32 × Int32) (α := Int32) (fun s5 =>
          if 5 < s5.2 then
            mP (Sum.inr s5.1)
          else
            if ¬ s5.1 = (-2) then
              mP (Sum.inr s5.1)
            else
              mB (mSt (qm_rf this 0) 0 s5.2) fun _ =>
              mB (mLd (qm_rf this 14) p1) fun x6 =>
              mB (jf_Model_fitsFrom this p1 x6 0 p2) fun x7 =>
              mB (α := Int32) (
                if x7 = 0 then
                  mP (-2)
                else
                  mP s5.2) fun s8 =>
              mB (mP (s5.2 + 1)) fun x9 =>
              mP (Sum.inl (s8, x9))) ((-2), 1)) fun s4 =>
      mB (mSt (qm_rf this 0) 0 x3) fun _ =>
      mP s4
    else
      mP (-1)
set_option maxRecDepth 20000 in
set_option maxHeartbeats 4000000 in
theorem jb_Model_narrow {X : qm_X} (hX : qm_ok X qr_Model prog_11_method_75_code 6 6 152 jl_Model_narrow) {r0 : Int32} {σ0 : qm_Mem} (hR : qm_RI X r0 σ0 .int) (this : Nat) (p1 : Int32) (p2 : Int32) (hthis : (qm_kd this).1 = 19) : qm_B X (jf_Model_narrow this p1 p2) 0 [some (.ref (qx_ad X this)), some (.int p1), some (.int p2), none, none, none] [] (fun r σ1 => r = r0 ∧ σ1 = σ0) := by
  unfold jf_Model_narrow
  refine qb_aload_n hX 0 rfl rfl ?_
  refine qb_callV hX 1 rfl cv_Model_245 (jm_Model_lays (qk_GI hX) this  hthis ) (ci := 9) hthis ⟨rfl, rfl, rfl, by decide, by decide⟩ rfl (by exact Nat.le_of_ble_eq_true rfl) ?_
  refine qb_aload_n hX 2 rfl rfl ?_
  refine qb_iload_n hX 3 rfl rfl ?_
  refine qb_callI hX 4 rfl cv_Model_284 (jm_Model_isSection (qk_GI hX) this p1 hthis ) (ci := 9) hthis ⟨rfl, rfl, rfl, by decide, by decide⟩ rfl (by exact Nat.le_of_ble_eq_true rfl) (fun x1 => ?_)
  refine qb_ifeq hX 5 24 rfl (by decide) ?_ ?_
  ·
    refine qb_iconst hX 12 (-1) rfl (by decide) ?_
    exact qb_iret hX 13 rfl hR (fun _ h => h)
  ·
    refine qb_iload_n hX 6 rfl rfl ?_
    refine qb_i2l hX 7 rfl ?_
    refine qb_lconst hX 8 0 rfl (by decide) ?_
    refine qb_ldc2w hX 9 2000 rfl kl_Model_290 ?_
    refine qb_calSI hX 10 rfl cv_Model_129 (jm_Model_in (qk_GI hX) (Int32.toInt64 p2) (0 : Int64) (2000 : Int64) ) ⟨rfl, by decide, by decide⟩ rfl (by exact Nat.le_of_ble_eq_true rfl) (fun x2 => ?_)
    refine qb_ifne hX 11 26 rfl (by decide) ?_ ?_
    ·
      refine qb_aload_n hX 14 rfl rfl ?_
      refine qb_getR hX 15 rfl fl_Model_7 hthis rfl ?_
      refine qb_iconst hX 16 0 rfl (by decide) ?_
      refine qb_iald hX 17 rfl (kf_Model_0 hthis) (fun x3 => ?_)
      refine qb_istore_n hX 18 ([some (.ref (qx_ad X this)), some (.int p1), some (.int p2), some (.int x3), none, none]) rfl (by decide) rfl ?_
      refine qb_bipush hX 19 (-2) rfl (by decide) ?_
      refine qb_istore hX 20 ([some (.ref (qx_ad X this)), some (.int p1), some (.int p2), some (.int x3), some (.int (-2)), none]) rfl (by decide) rfl ?_
      refine qb_iconst hX 21 1 rfl (by decide) ?_
      refine qb_istore hX 22 ([some (.ref (qx_ad X this)), some (.int p1), some (.int p2), some (.int x3), some (.int (-2)), some (.int 1)]) rfl (by decide) rfl ?_
      refine qb_join 92 (fun s4 => [some (.ref (qx_ad X this)), none, none, some (.int x3), some (.int s4), none]) (fun s4 => []) ?_ ?_
      ·
        refine qb_loopw (((-2), 1)) (fun s5 => [some (.ref (qx_ad X this)), some (.int p1), some (.int p2), some (.int x3), some (.int s5.1), some (.int s5.2)]) (qw_s (qw_s (qw_s (qw_s (qw_s (qw_s (qw_0))))))) (fun s5 => ?_)
        refine qb_iload hX 23 rfl rfl ?_
        refine qb_iconst hX 24 5 rfl (by decide) ?_
        refine qb_icgt hX 25 92 rfl (by decide) ?_ ?_
        ·
          exact qb_exit (fun σ h => qj_wk (ρ' := [some (.ref (qx_ad X this)), none, none, some (.int x3), some (.int s5.1), none]) (qw_s (qw_n (qw_n (qw_s (qw_s (qw_n (qw_0))))))) h)
        ·
          refine qb_iload hX 26 rfl rfl ?_
          refine qb_bipush hX 27 (-2) rfl (by decide) ?_
          refine qb_icne hX 28 92 rfl (by decide) ?_ ?_
          ·
            exact qb_exit (fun σ h => qj_wk (ρ' := [some (.ref (qx_ad X this)), none, none, some (.int x3), some (.int s5.1), none]) (qw_s (qw_n (qw_n (qw_s (qw_s (qw_n (qw_0))))))) h)
          ·
            refine qb_aload_n hX 29 rfl rfl ?_
            refine qb_getR hX 30 rfl fl_Model_7 hthis rfl ?_
            refine qb_iconst hX 31 0 rfl (by decide) ?_
            refine qb_iload hX 32 rfl rfl ?_
            refine qb_iast hX 33 rfl (kf_Model_0 hthis) ?_
            refine qb_aload_n hX 34 rfl rfl ?_
            refine qb_iload_n hX 35 rfl rfl ?_
            refine qb_aload_n hX 36 rfl rfl ?_
            refine qb_getR hX 37 rfl fl_Model_47 hthis rfl ?_
            refine qb_iload_n hX 38 rfl rfl ?_
            refine qb_iald hX 39 rfl (kf_Model_14 hthis) (fun x6 => ?_)
            refine qb_iconst hX 40 0 rfl (by decide) ?_
            refine qb_iload_n hX 41 rfl rfl ?_
            refine qb_callI hX 42 rfl cv_Model_194 (jm_Model_fitsFrom (qk_GI hX) this p1 x6 0 p2 hthis ) (ci := 9) hthis ⟨rfl, rfl, rfl, by decide, by decide⟩ rfl (by exact Nat.le_of_ble_eq_true rfl) (fun x7 => ?_)
            refine qb_join 84 (fun s8 => [some (.ref (qx_ad X this)), some (.int p1), some (.int p2), some (.int x3), none, some (.int s5.2)]) (fun s8 => [.int s8]) ?_ ?_
            ·
              refine qb_ifeq hX 43 82 rfl (by decide) ?_ ?_
              ·
                refine qb_bipush hX 46 (-2) rfl (by decide) ?_
                exact qb_exit (fun σ h => qj_wk (ρ' := [some (.ref (qx_ad X this)), some (.int p1), some (.int p2), some (.int x3), none, some (.int s5.2)]) (qw_s (qw_s (qw_s (qw_s (qw_n (qw_s (qw_0))))))) h)
              ·
                refine qb_iload hX 44 rfl rfl ?_
                exact qb_exit (fun σ h => qj_goto hX 45 rfl (by decide) (qj_wk (ρ' := [some (.ref (qx_ad X this)), some (.int p1), some (.int p2), some (.int x3), none, some (.int s5.2)]) (qw_s (qw_s (qw_s (qw_s (qw_n (qw_s (qw_0))))))) h))
            · intro s8
              refine qb_istore hX 47 ([some (.ref (qx_ad X this)), some (.int p1), some (.int p2), some (.int x3), some (.int s8), some (.int s5.2)]) rfl (by decide) rfl ?_
              refine qb_iinc hX 48 1 (fun x9 => [some (.ref (qx_ad X this)), some (.int p1), some (.int p2), some (.int x3), some (.int s8), some (.int x9)]) rfl (by decide) (by decide) rfl (fun _ => rfl) (fun x9 => ?_)
              exact qb_exit (fun σ h => qj_goto hX 49 rfl (by decide) (qj_wk (ρ' := [some (.ref (qx_ad X this)), some (.int p1), some (.int p2), some (.int x3), some (.int s8), some (.int x9)]) (qw_s (qw_s (qw_s (qw_s (qw_s (qw_s (qw_0))))))) h))
      · intro s4
        refine qb_aload_n hX 50 rfl rfl ?_
        refine qb_getR hX 51 rfl fl_Model_7 hthis rfl ?_
        refine qb_iconst hX 52 0 rfl (by decide) ?_
        refine qb_iload_n hX 53 rfl rfl ?_
        refine qb_iast hX 54 rfl (kf_Model_0 hthis) ?_
        refine qb_iload hX 55 rfl rfl ?_
        exact qb_iret hX 56 rfl hR (fun _ h => h)
    ·
      refine qb_iconst hX 12 (-1) rfl (by decide) ?_
      exact qb_iret hX 13 rfl hR (fun _ h => h)
theorem jm_Model_narrow {l : Launch} {G : qm_G} (hG : qm_GI G) (this : Nat) (p1 : Int32) (p2 : Int32) (hthis : (qm_kd this).1 = 19) : qm_MI l G jy_Model_narrow prog_11_method_75_code 6 (some .int) 6 152 [.ref (G.1 this), .int p1, .int p2] (jf_Model_narrow this p1 p2) :=
  qm_metI (by decide +kernel) jd_Model_narrow (fun v hv => by simp only [List.mem_cons, List.not_mem_nil, or_false] at hv; rcases hv with rfl | rfl | rfl <;> rfl) (by exact Nat.le_of_ble_eq_true rfl) hG rfl (fun X hl hg hX r0 σ0 hR => by subst hl; subst hg; exact jb_Model_narrow hX hR this p1 p2 hthis)
def jl_Model_even : List qm_I := [(0, .aload_n 0, 1, 1), (1, .invokevirtual 245, 3, 4), (4, .aload_n 0, 1, 5), (5, .iload_n 1, 1, 6), (6, .invokevirtual 284, 3, 9), (9, .ifCond .ne 5, 3, 12), (12, .iconst (-1), 1, 13), (13, .ireturn, 1, 14), (14, .aload_n 0, 1, 15), (15, .iload_n 1, 1, 16), (16, .invokevirtual 292, 3, 19), (19, .istore_n 2, 1, 20), (20, .iload_n 2, 1, 21), (21, .ifCond .ge 6, 3, 24), (24, .bipush (-2), 2, 26), (26, .ireturn, 1, 27), (27, .aload_n 0, 1, 28), (28, .iconst 0, 1, 29), (29, .putfield 198, 3, 32), (32, .aload_n 0, 1, 33), (33, .iconst 0, 1, 34), (34, .putfield 201, 3, 37), (37, .aload_n 0, 1, 38), (38, .aload_n 0, 1, 39), (39, .getfield 7, 3, 42), (42, .iconst 1, 1, 43), (43, .iaload, 1, 44), (44, .putfield 210, 3, 47), (47, .aload_n 0, 1, 48), (48, .aload_n 0, 1, 49), (49, .getfield 47, 3, 52), (52, .iload_n 1, 1, 53), (53, .iaload, 1, 54), (54, .putfield 204, 3, 57), (57, .aload_n 0, 1, 58), (58, .iconst 0, 1, 59), (59, .putfield 207, 3, 62), (62, .aload_n 0, 1, 63), (63, .iload_n 1, 1, 64), (64, .iload_n 2, 1, 65), (65, .invokevirtual 225, 3, 68), (68, .ldc_w 297, 3, 71), (71, .istore_n 3, 1, 72), (72, .iconst 0, 1, 73), (73, .istore 4, 2, 75), (75, .iconst 0, 1, 76), (76, .istore 5, 2, 78), (78, .iload 5, 2, 80), (80, .aload_n 0, 1, 81), (81, .getfield 198, 3, 84), (84, .if_icmp .ge 54, 3, 87), (87, .aload_n 0, 1, 88), (88, .getfield 92, 3, 91), (91, .iload 5, 2, 93), (93, .iaload, 1, 94), (94, .aload_n 0, 1, 95), (95, .iload 5, 2, 97), (97, .invokevirtual 320, 3, 100), (100, .isub, 1, 101), (101, .istore 6, 2, 103), (103, .iload 6, 2, 105), (105, .iload_n 3, 1, 106), (106, .if_icmp .ge 8, 3, 109), (109, .iload 6, 2, 111), (111, .goto 4, 3, 114), (114, .iload_n 3, 1, 115), (115, .istore_n 3, 1, 116), (116, .iload 6, 2, 118), (118, .iload 4, 2, 120), (120, .if_icmp .le 8, 3, 123), (123, .iload 6, 2, 125), (125, .goto 5, 3, 128), (128, .iload 4, 2, 130), (130, .istore 4, 2, 132), (132, .iinc 5 1, 3, 135), (135, .goto (-57), 3, 138), (138, .iload 4, 2, 140), (140, .iload_n 3, 1, 141), (141, .isub, 1, 142), (142, .ireturn, 1, 143)]
theorem jd_Model_even : qm_D prog_11_method_76_code jl_Model_even := qm_D_of (by decide +kernel)
noncomputable def jf_Model_even (this : Nat) (p1 : Int32) : qm_M Int32 :=
  mB (jf_Model_lays this) fun _ =>
  mB (jf_Model_isSection this p1) fun x1 =>
  if ¬ x1 = 0 then
    mB (jf_Model_leastOf this p1) fun x2 =>
    if 0 ≤ x2 then
      mB (mPt this 32 0) fun _ =>
      mB (mPt this 33 0) fun _ =>
      mB (mLd (qm_rf this 0) 1) fun x3 =>
      mB (mPt this 34 x3) fun _ =>
      mB (mLd (qm_rf this 14) p1) fun x4 =>
      mB (mPt this 36 x4) fun _ =>
      mB (mPt this 37 0) fun _ =>
      mB (jf_Model_levelsBy this p1 x2) fun _ =>
      mB (α := Int32 × Int32) (
        mW (S := Int32 × Int32 × Int32) (α := Int32 × Int32) (fun s6 =>
          mB (mGt this 32) fun x7 =>
          if x7 ≤ s6.2.2 then
            mP (Sum.inr (s6.1, s6.2.1))
          else
            mB (mLd (qm_rf this 30) s6.2.2) fun x8 =>
            mB (jf_Model_looseOf this s6.2.2) fun x9 =>
            mB (mP (x8 - x9)) fun x10 =>
            mB (α := Int32) (
              if s6.1 ≤ x10 then
                mP s6.1
              else
                mP x10) fun s11 =>
            mB (α := Int32) (
              if x10 ≤ s6.2.1 then
                mP s6.2.1
              else
                mP x10) fun s12 =>
            mB (mP (s6.2.2 + 1)) fun x13 =>
            mP (Sum.inl (s11, s12, x13))) (100000, 0, 0)) fun s5 =>
      mP (s5.2 - s5.1)
    else
      mP (-2)
  else
    mP (-1)
set_option maxRecDepth 20000 in
set_option maxHeartbeats 4000000 in
theorem jb_Model_even {X : qm_X} (hX : qm_ok X qr_Model prog_11_method_76_code 7 8 201 jl_Model_even) {r0 : Int32} {σ0 : qm_Mem} (hR : qm_RI X r0 σ0 .int) (this : Nat) (p1 : Int32) (hthis : (qm_kd this).1 = 19) : qm_B X (jf_Model_even this p1) 0 [some (.ref (qx_ad X this)), some (.int p1), none, none, none, none, none] [] (fun r σ1 => r = r0 ∧ σ1 = σ0) := by
  unfold jf_Model_even
  refine qb_aload_n hX 0 rfl rfl ?_
  refine qb_callV hX 1 rfl cv_Model_245 (jm_Model_lays (qk_GI hX) this  hthis ) (ci := 9) hthis ⟨rfl, rfl, rfl, by decide, by decide⟩ rfl (by exact Nat.le_of_ble_eq_true rfl) ?_
  refine qb_aload_n hX 2 rfl rfl ?_
  refine qb_iload_n hX 3 rfl rfl ?_
  refine qb_callI hX 4 rfl cv_Model_284 (jm_Model_isSection (qk_GI hX) this p1 hthis ) (ci := 9) hthis ⟨rfl, rfl, rfl, by decide, by decide⟩ rfl (by exact Nat.le_of_ble_eq_true rfl) (fun x1 => ?_)
  refine qb_ifne hX 5 14 rfl (by decide) ?_ ?_
  ·
    refine qb_aload_n hX 8 rfl rfl ?_
    refine qb_iload_n hX 9 rfl rfl ?_
    refine qb_callI hX 10 rfl cv_Model_292 (jm_Model_leastOf (qk_GI hX) this p1 hthis ) (ci := 9) hthis ⟨rfl, rfl, rfl, by decide, by decide⟩ rfl (by exact Nat.le_of_ble_eq_true rfl) (fun x2 => ?_)
    refine qb_istore_n hX 11 ([some (.ref (qx_ad X this)), some (.int p1), some (.int x2), none, none, none, none]) rfl (by decide) rfl ?_
    refine qb_iload_n hX 12 rfl rfl ?_
    refine qb_ifge hX 13 27 rfl (by decide) ?_ ?_
    ·
      refine qb_aload_n hX 16 rfl rfl ?_
      refine qb_iconst hX 17 0 rfl (by decide) ?_
      refine qb_put hX 18 rfl fp_Model_198 hthis ?_
      refine qb_aload_n hX 19 rfl rfl ?_
      refine qb_iconst hX 20 0 rfl (by decide) ?_
      refine qb_put hX 21 rfl fp_Model_201 hthis ?_
      refine qb_aload_n hX 22 rfl rfl ?_
      refine qb_aload_n hX 23 rfl rfl ?_
      refine qb_getR hX 24 rfl fl_Model_7 hthis rfl ?_
      refine qb_iconst hX 25 1 rfl (by decide) ?_
      refine qb_iald hX 26 rfl (kf_Model_0 hthis) (fun x3 => ?_)
      refine qb_put hX 27 rfl fp_Model_210 hthis ?_
      refine qb_aload_n hX 28 rfl rfl ?_
      refine qb_aload_n hX 29 rfl rfl ?_
      refine qb_getR hX 30 rfl fl_Model_47 hthis rfl ?_
      refine qb_iload_n hX 31 rfl rfl ?_
      refine qb_iald hX 32 rfl (kf_Model_14 hthis) (fun x4 => ?_)
      refine qb_put hX 33 rfl fp_Model_204 hthis ?_
      refine qb_aload_n hX 34 rfl rfl ?_
      refine qb_iconst hX 35 0 rfl (by decide) ?_
      refine qb_put hX 36 rfl fp_Model_207 hthis ?_
      refine qb_aload_n hX 37 rfl rfl ?_
      refine qb_iload_n hX 38 rfl rfl ?_
      refine qb_iload_n hX 39 rfl rfl ?_
      refine qb_callV hX 40 rfl cv_Model_225 (jm_Model_levelsBy (qk_GI hX) this p1 x2 hthis ) (ci := 9) hthis ⟨rfl, rfl, rfl, by decide, by decide⟩ rfl (by exact Nat.le_of_ble_eq_true rfl) ?_
      refine qb_ldcw hX 41 100000 rfl kc_Model_297 ?_
      refine qb_istore_n hX 42 ([some (.ref (qx_ad X this)), some (.int p1), some (.int x2), some (.int 100000), none, none, none]) rfl (by decide) rfl ?_
      refine qb_iconst hX 43 0 rfl (by decide) ?_
      refine qb_istore hX 44 ([some (.ref (qx_ad X this)), some (.int p1), some (.int x2), some (.int 100000), some (.int 0), none, none]) rfl (by decide) rfl ?_
      refine qb_iconst hX 45 0 rfl (by decide) ?_
      refine qb_istore hX 46 ([some (.ref (qx_ad X this)), some (.int p1), some (.int x2), some (.int 100000), some (.int 0), some (.int 0), none]) rfl (by decide) rfl ?_
      refine qb_join 138 (fun s5 => [none, none, none, some (.int s5.1), some (.int s5.2), none, none]) (fun s5 => []) ?_ ?_
      ·
        refine qb_loopw ((100000, 0, 0)) (fun s6 => [some (.ref (qx_ad X this)), none, none, some (.int s6.1), some (.int s6.2.1), some (.int s6.2.2), none]) (qw_s (qw_n (qw_n (qw_s (qw_s (qw_s (qw_n (qw_0)))))))) (fun s6 => ?_)
        refine qb_iload hX 47 rfl rfl ?_
        refine qb_aload_n hX 48 rfl rfl ?_
        refine qb_get hX 49 rfl fl_Model_198 hthis rfl (fun x7 => ?_)
        refine qb_icge hX 50 138 rfl (by decide) ?_ ?_
        ·
          exact qb_exit (fun σ h => qj_wk (ρ' := [none, none, none, some (.int s6.1), some (.int s6.2.1), none, none]) (qw_n (qw_n (qw_n (qw_s (qw_s (qw_n (qw_n (qw_0)))))))) h)
        ·
          refine qb_aload_n hX 51 rfl rfl ?_
          refine qb_getR hX 52 rfl fl_Model_92 hthis rfl ?_
          refine qb_iload hX 53 rfl rfl ?_
          refine qb_iald hX 54 rfl (kf_Model_30 hthis) (fun x8 => ?_)
          refine qb_aload_n hX 55 rfl rfl ?_
          refine qb_iload hX 56 rfl rfl ?_
          refine qb_callI hX 57 rfl cv_Model_320 (jm_Model_looseOf (qk_GI hX) this s6.2.2 hthis ) (ci := 9) hthis ⟨rfl, rfl, rfl, by decide, by decide⟩ rfl (by exact Nat.le_of_ble_eq_true rfl) (fun x9 => ?_)
          refine qb_isub hX 58 rfl ?_
          refine qb_istoreL hX 59 (fun x10 => [some (.ref (qx_ad X this)), none, none, some (.int s6.1), some (.int s6.2.1), some (.int s6.2.2), some (.int x10)]) rfl (by decide) (fun _ => rfl) (fun x10 => ?_)
          refine qb_iload hX 60 rfl rfl ?_
          refine qb_iload_n hX 61 rfl rfl ?_
          refine qb_join 115 (fun s11 => [some (.ref (qx_ad X this)), none, none, none, some (.int s6.2.1), some (.int s6.2.2), some (.int x10)]) (fun s11 => [.int s11]) ?_ ?_
          ·
            refine qb_icge hX 62 114 rfl (by decide) ?_ ?_
            ·
              refine qb_iload_n hX 65 rfl rfl ?_
              exact qb_exit (fun σ h => qj_wk (ρ' := [some (.ref (qx_ad X this)), none, none, none, some (.int s6.2.1), some (.int s6.2.2), some (.int x10)]) (qw_s (qw_n (qw_n (qw_n (qw_s (qw_s (qw_s (qw_0)))))))) h)
            ·
              refine qb_iload hX 63 rfl rfl ?_
              exact qb_exit (fun σ h => qj_goto hX 64 rfl (by decide) (qj_wk (ρ' := [some (.ref (qx_ad X this)), none, none, none, some (.int s6.2.1), some (.int s6.2.2), some (.int x10)]) (qw_s (qw_n (qw_n (qw_n (qw_s (qw_s (qw_s (qw_0)))))))) h))
          · intro s11
            refine qb_istore_n hX 66 ([some (.ref (qx_ad X this)), none, none, some (.int s11), some (.int s6.2.1), some (.int s6.2.2), some (.int x10)]) rfl (by decide) rfl ?_
            refine qb_iload hX 67 rfl rfl ?_
            refine qb_iload hX 68 rfl rfl ?_
            refine qb_join 130 (fun s12 => [some (.ref (qx_ad X this)), none, none, some (.int s11), none, some (.int s6.2.2), none]) (fun s12 => [.int s12]) ?_ ?_
            ·
              refine qb_icle hX 69 128 rfl (by decide) ?_ ?_
              ·
                refine qb_iload hX 72 rfl rfl ?_
                exact qb_exit (fun σ h => qj_wk (ρ' := [some (.ref (qx_ad X this)), none, none, some (.int s11), none, some (.int s6.2.2), none]) (qw_s (qw_n (qw_n (qw_s (qw_n (qw_s (qw_n (qw_0)))))))) h)
              ·
                refine qb_iload hX 70 rfl rfl ?_
                exact qb_exit (fun σ h => qj_goto hX 71 rfl (by decide) (qj_wk (ρ' := [some (.ref (qx_ad X this)), none, none, some (.int s11), none, some (.int s6.2.2), none]) (qw_s (qw_n (qw_n (qw_s (qw_n (qw_s (qw_n (qw_0)))))))) h))
            · intro s12
              refine qb_istore hX 73 ([some (.ref (qx_ad X this)), none, none, some (.int s11), some (.int s12), some (.int s6.2.2), none]) rfl (by decide) rfl ?_
              refine qb_iinc hX 74 1 (fun x13 => [some (.ref (qx_ad X this)), none, none, some (.int s11), some (.int s12), some (.int x13), none]) rfl (by decide) (by decide) rfl (fun _ => rfl) (fun x13 => ?_)
              exact qb_exit (fun σ h => qj_goto hX 75 rfl (by decide) (qj_wk (ρ' := [some (.ref (qx_ad X this)), none, none, some (.int s11), some (.int s12), some (.int x13), none]) (qw_s (qw_n (qw_n (qw_s (qw_s (qw_s (qw_n (qw_0)))))))) h))
      · intro s5
        refine qb_iload hX 76 rfl rfl ?_
        refine qb_iload_n hX 77 rfl rfl ?_
        refine qb_isub hX 78 rfl ?_
        exact qb_iret hX 79 rfl hR (fun _ h => h)
    ·
      refine qb_bipush hX 14 (-2) rfl (by decide) ?_
      exact qb_iret hX 15 rfl hR (fun _ h => h)
  ·
    refine qb_iconst hX 6 (-1) rfl (by decide) ?_
    exact qb_iret hX 7 rfl hR (fun _ h => h)
theorem jm_Model_even {l : Launch} {G : qm_G} (hG : qm_GI G) (this : Nat) (p1 : Int32) (hthis : (qm_kd this).1 = 19) : qm_MI l G jy_Model_even prog_11_method_76_code 7 (some .int) 8 201 [.ref (G.1 this), .int p1] (jf_Model_even this p1) :=
  qm_metI (by decide +kernel) jd_Model_even (fun v hv => by simp only [List.mem_cons, List.not_mem_nil, or_false] at hv; rcases hv with rfl | rfl <;> rfl) (by exact Nat.le_of_ble_eq_true rfl) hG rfl (fun X hl hg hX r0 σ0 hR => by subst hl; subst hg; exact jb_Model_even hX hR this p1 hthis)
def jl_Model_trades : List qm_I := [(0, .iconst 0, 1, 1), (1, .istore_n 3, 1, 2), (2, .iload_n 3, 1, 3), (3, .bipush 16, 2, 5), (5, .if_icmp .ge 53, 3, 8), (8, .aload_n 0, 1, 9), (9, .iload_n 1, 1, 10), (10, .iload_n 3, 1, 11), (11, .invokevirtual 144, 3, 14), (14, .istore 4, 2, 16), (16, .aload_n 0, 1, 17), (17, .getfield 7, 3, 20), (20, .bipush 9, 2, 22), (22, .bipush 16, 2, 24), (24, .iload_n 1, 1, 25), (25, .imul, 1, 26), (26, .iadd, 1, 27), (27, .iload_n 3, 1, 28), (28, .iadd, 1, 29), (29, .aload_n 0, 1, 30), (30, .iload_n 2, 1, 31), (31, .iload_n 3, 1, 32), (32, .invokevirtual 144, 3, 35), (35, .iastore, 1, 36), (36, .aload_n 0, 1, 37), (37, .getfield 7, 3, 40), (40, .bipush 9, 2, 42), (42, .bipush 16, 2, 44), (44, .iload_n 2, 1, 45), (45, .imul, 1, 46), (46, .iadd, 1, 47), (47, .iload_n 3, 1, 48), (48, .iadd, 1, 49), (49, .iload 4, 2, 51), (51, .iastore, 1, 52), (52, .iinc 3 1, 3, 55), (55, .goto (-53), 3, 58), (58, .return_, 1, 59)]
theorem jd_Model_trades : qm_D prog_11_method_78_code jl_Model_trades := qm_D_of (by decide +kernel)
noncomputable def jf_Model_trades (this : Nat) (p1 : Int32) (p2 : Int32) : qm_M Unit :=
  mB (α := Unit) (
    mW (S := Int32) (α := Unit) (fun s2 =>
      if 16 ≤ s2 then
        mP (Sum.inr ())
      else
        mB (jf_Model_of this p1 s2) fun x3 =>
        mB (jf_Model_of this p2 s2) fun x4 =>
        mB (mSt (qm_rf this 0) ((9 + (16 * p1)) + s2) x4) fun _ =>
        mB (mSt (qm_rf this 0) ((9 + (16 * p2)) + s2) x3) fun _ =>
        mB (mP (s2 + 1)) fun x5 =>
        mP (Sum.inl x5)) 0) fun s1 =>
  mP ()
set_option maxRecDepth 20000 in
set_option maxHeartbeats 4000000 in
theorem jb_Model_trades {X : qm_X} (hX : qm_ok X qr_Model prog_11_method_78_code 5 1 22 jl_Model_trades) {σ0 : qm_Mem} (hR : qm_RV X σ0) (this : Nat) (p1 : Int32) (p2 : Int32) (hthis : (qm_kd this).1 = 19) : qm_B X (jf_Model_trades this p1 p2) 0 [some (.ref (qx_ad X this)), some (.int p1), some (.int p2), none, none] [] (fun _ σ1 => σ1 = σ0) := by
  unfold jf_Model_trades
  refine qb_iconst hX 0 0 rfl (by decide) ?_
  refine qb_istore_n hX 1 ([some (.ref (qx_ad X this)), some (.int p1), some (.int p2), some (.int 0), none]) rfl (by decide) rfl ?_
  refine qb_join 58 (fun s1 => [none, none, none, none, none]) (fun s1 => []) ?_ ?_
  ·
    refine qb_loopw (0) (fun s2 => [some (.ref (qx_ad X this)), some (.int p1), some (.int p2), some (.int s2), none]) (qw_s (qw_s (qw_s (qw_s (qw_n (qw_0)))))) (fun s2 => ?_)
    refine qb_iload_n hX 2 rfl rfl ?_
    refine qb_bipush hX 3 16 rfl (by decide) ?_
    refine qb_icge hX 4 58 rfl (by decide) ?_ ?_
    ·
      exact qb_exit (fun σ h => qj_wk (ρ' := [none, none, none, none, none]) (qw_n (qw_n (qw_n (qw_n (qw_n (qw_0)))))) h)
    ·
      refine qb_aload_n hX 5 rfl rfl ?_
      refine qb_iload_n hX 6 rfl rfl ?_
      refine qb_iload_n hX 7 rfl rfl ?_
      refine qb_callI hX 8 rfl cv_Model_144 (jm_Model_of (qk_GI hX) this p1 s2 hthis ) (ci := 9) hthis ⟨rfl, rfl, rfl, by decide, by decide⟩ rfl (by exact Nat.le_of_ble_eq_true rfl) (fun x3 => ?_)
      refine qb_istore hX 9 ([some (.ref (qx_ad X this)), some (.int p1), some (.int p2), some (.int s2), some (.int x3)]) rfl (by decide) rfl ?_
      refine qb_aload_n hX 10 rfl rfl ?_
      refine qb_getR hX 11 rfl fl_Model_7 hthis rfl ?_
      refine qb_bipush hX 12 9 rfl (by decide) ?_
      refine qb_bipush hX 13 16 rfl (by decide) ?_
      refine qb_iload_n hX 14 rfl rfl ?_
      refine qb_imul hX 15 rfl ?_
      refine qb_iadd hX 16 rfl ?_
      refine qb_iload_n hX 17 rfl rfl ?_
      refine qb_iadd hX 18 rfl ?_
      refine qb_aload_n hX 19 rfl rfl ?_
      refine qb_iload_n hX 20 rfl rfl ?_
      refine qb_iload_n hX 21 rfl rfl ?_
      refine qb_callI hX 22 rfl cv_Model_144 (jm_Model_of (qk_GI hX) this p2 s2 hthis ) (ci := 9) hthis ⟨rfl, rfl, rfl, by decide, by decide⟩ rfl (by exact Nat.le_of_ble_eq_true rfl) (fun x4 => ?_)
      refine qb_iast hX 23 rfl (kf_Model_0 hthis) ?_
      refine qb_aload_n hX 24 rfl rfl ?_
      refine qb_getR hX 25 rfl fl_Model_7 hthis rfl ?_
      refine qb_bipush hX 26 9 rfl (by decide) ?_
      refine qb_bipush hX 27 16 rfl (by decide) ?_
      refine qb_iload_n hX 28 rfl rfl ?_
      refine qb_imul hX 29 rfl ?_
      refine qb_iadd hX 30 rfl ?_
      refine qb_iload_n hX 31 rfl rfl ?_
      refine qb_iadd hX 32 rfl ?_
      refine qb_iload hX 33 rfl rfl ?_
      refine qb_iast hX 34 rfl (kf_Model_0 hthis) ?_
      refine qb_iinc hX 35 1 (fun x5 => [some (.ref (qx_ad X this)), some (.int p1), some (.int p2), some (.int x5), some (.int x3)]) rfl (by decide) (by decide) rfl (fun _ => rfl) (fun x5 => ?_)
      exact qb_exit (fun σ h => qj_goto hX 36 rfl (by decide) (qj_wk (ρ' := [some (.ref (qx_ad X this)), some (.int p1), some (.int p2), some (.int x5), none]) (qw_s (qw_s (qw_s (qw_s (qw_n (qw_0)))))) h))
  · intro s1
    exact qb_vret hX 37 rfl hR (fun _ h => h)
theorem jm_Model_trades {l : Launch} {G : qm_G} (hG : qm_GI G) (this : Nat) (p1 : Int32) (p2 : Int32) (hthis : (qm_kd this).1 = 19) : qm_MV l G jy_Model_trades prog_11_method_78_code 5 1 22 [.ref (G.1 this), .int p1, .int p2] (jf_Model_trades this p1 p2) :=
  qm_metV (by decide +kernel) jd_Model_trades (fun v hv => by simp only [List.mem_cons, List.not_mem_nil, or_false] at hv; rcases hv with rfl | rfl | rfl <;> rfl) (by exact Nat.le_of_ble_eq_true rfl) hG (fun X hl hg hX σ0 hR => by subst hl; subst hg; exact jb_Model_trades hX hR this p1 p2 hthis)
def jl_Model_order : List qm_I := [(0, .iload_n 1, 1, 1), (1, .i2l, 1, 2), (2, .lconst 0, 1, 3), (3, .lconst 1, 1, 4), (4, .invokestatic 129, 3, 7), (7, .ifCond .ne 5, 3, 10), (10, .iconst (-1), 1, 11), (11, .ireturn, 1, 12), (12, .bipush (-2), 2, 14), (14, .istore_n 2, 1, 15), (15, .bipush (-2), 2, 17), (17, .istore_n 3, 1, 18), (18, .aload_n 0, 1, 19), (19, .invokevirtual 304, 3, 22), (22, .iconst 0, 1, 23), (23, .istore 4, 2, 25), (25, .iload 4, 2, 27), (27, .iconst 1, 1, 28), (28, .iadd, 1, 29), (29, .aload_n 0, 1, 30), (30, .invokevirtual 140, 3, 33), (33, .if_icmp .ge 55, 3, 36), (36, .aload_n 0, 1, 37), (37, .iload 4, 2, 39), (39, .iload 4, 2, 41), (41, .iconst 1, 1, 42), (42, .iadd, 1, 43), (43, .invokevirtual 349, 3, 46), (46, .aload_n 0, 1, 47), (47, .invokevirtual 254, 3, 50), (50, .istore 5, 2, 52), (52, .aload_n 0, 1, 53), (53, .invokevirtual 307, 3, 56), (56, .iload 5, 2, 58), (58, .ifCond .lt 24, 3, 61), (61, .iload_n 2, 1, 62), (62, .bipush (-2), 2, 64), (64, .if_icmp .eq 12, 3, 67), (67, .iload 5, 2, 69), (69, .iload_n 3, 1, 70), (70, .if_icmp .lt 6, 3, 73), (73, .goto 9, 3, 76), (76, .iload 4, 2, 78), (78, .istore_n 2, 1, 79), (79, .iload 5, 2, 81), (81, .istore_n 3, 1, 82), (82, .iinc 4 1, 3, 85), (85, .goto (-60), 3, 88), (88, .iload_n 1, 1, 89), (89, .ifCond .ne 7, 3, 92), (92, .iload_n 2, 1, 93), (93, .goto 4, 3, 96), (96, .iload_n 3, 1, 97), (97, .ireturn, 1, 98)]
theorem jd_Model_order : qm_D prog_11_method_77_code jl_Model_order := qm_D_of (by decide +kernel)
noncomputable def jf_Model_order (this : Nat) (p1 : Int32) : qm_M Int32 :=
  mB (jf_Model_in (Int32.toInt64 p1) (0 : Int64) (1 : Int64)) fun x1 =>
  if ¬ x1 = 0 then
    mB (jf_Model_keepsAside this) fun _ =>
    mB (α := Int32 × Int32) (
      mW (S := Int32 × Int32 × Int32) (α := Int32 × Int32) (fun s3 =>
        mB (jf_Model_blocks this) fun x4 =>
        if x4 ≤ (s3.2.2 + 1) then
          mP (Sum.inr (s3.1, s3.2.1))
        else
          mB (jf_Model_trades this s3.2.2 (s3.2.2 + 1)) fun _ =>
          mB (jf_Model_pours this) fun x5 =>
          mB (jf_Model_putsBack this) fun _ =>
          mB (α := Int32 × Int32) (
            if x5 < 0 then
              mP (s3.1, s3.2.1)
            else
              mB (α := (Unit ⊕ (Int32 × Int32))) (
                if s3.1 = (-2) then
                  mP (Sum.inl ())
                else
                  if x5 < s3.2.1 then
                    mP (Sum.inl ())
                  else
                    mP (Sum.inr (s3.1, s3.2.1))) (Sum.elim (fun s7 =>
                mP (s3.2.2, x5)) mP)) fun s6 =>
          mB (mP (s3.2.2 + 1)) fun x8 =>
          mP (Sum.inl (s6.1, s6.2, x8))) ((-2), (-2), 0)) fun s2 =>
    if ¬ p1 = 0 then
      mP s2.2
    else
      mP s2.1
  else
    mP (-1)
set_option maxRecDepth 20000 in
set_option maxHeartbeats 4000000 in
theorem jb_Model_order {X : qm_X} (hX : qm_ok X qr_Model prog_11_method_77_code 6 10 248 jl_Model_order) {r0 : Int32} {σ0 : qm_Mem} (hR : qm_RI X r0 σ0 .int) (this : Nat) (p1 : Int32) (hthis : (qm_kd this).1 = 19) : qm_B X (jf_Model_order this p1) 0 [some (.ref (qx_ad X this)), some (.int p1), none, none, none, none] [] (fun r σ1 => r = r0 ∧ σ1 = σ0) := by
  unfold jf_Model_order
  refine qb_iload_n hX 0 rfl rfl ?_
  refine qb_i2l hX 1 rfl ?_
  refine qb_lconst hX 2 0 rfl (by decide) ?_
  refine qb_lconst hX 3 1 rfl (by decide) ?_
  refine qb_calSI hX 4 rfl cv_Model_129 (jm_Model_in (qk_GI hX) (Int32.toInt64 p1) (0 : Int64) (1 : Int64) ) ⟨rfl, by decide, by decide⟩ rfl (by exact Nat.le_of_ble_eq_true rfl) (fun x1 => ?_)
  refine qb_ifne hX 5 12 rfl (by decide) ?_ ?_
  ·
    refine qb_bipush hX 8 (-2) rfl (by decide) ?_
    refine qb_istore_n hX 9 ([some (.ref (qx_ad X this)), some (.int p1), some (.int (-2)), none, none, none]) rfl (by decide) rfl ?_
    refine qb_bipush hX 10 (-2) rfl (by decide) ?_
    refine qb_istore_n hX 11 ([some (.ref (qx_ad X this)), some (.int p1), some (.int (-2)), some (.int (-2)), none, none]) rfl (by decide) rfl ?_
    refine qb_aload_n hX 12 rfl rfl ?_
    refine qb_callV hX 13 rfl cv_Model_304 (jm_Model_keepsAside (qk_GI hX) this  hthis ) (ci := 9) hthis ⟨rfl, rfl, rfl, by decide, by decide⟩ rfl (by exact Nat.le_of_ble_eq_true rfl) ?_
    refine qb_iconst hX 14 0 rfl (by decide) ?_
    refine qb_istore hX 15 ([some (.ref (qx_ad X this)), some (.int p1), some (.int (-2)), some (.int (-2)), some (.int 0), none]) rfl (by decide) rfl ?_
    refine qb_join 88 (fun s2 => [none, some (.int p1), some (.int s2.1), some (.int s2.2), none, none]) (fun s2 => []) ?_ ?_
    ·
      refine qb_loopw (((-2), (-2), 0)) (fun s3 => [some (.ref (qx_ad X this)), some (.int p1), some (.int s3.1), some (.int s3.2.1), some (.int s3.2.2), none]) (qw_s (qw_s (qw_s (qw_s (qw_s (qw_n (qw_0))))))) (fun s3 => ?_)
      refine qb_iload hX 16 rfl rfl ?_
      refine qb_iconst hX 17 1 rfl (by decide) ?_
      refine qb_iadd hX 18 rfl ?_
      refine qb_aload_n hX 19 rfl rfl ?_
      refine qb_callI hX 20 rfl cv_Model_140 (jm_Model_blocks (qk_GI hX) this  hthis ) (ci := 9) hthis ⟨rfl, rfl, rfl, by decide, by decide⟩ rfl (by exact Nat.le_of_ble_eq_true rfl) (fun x4 => ?_)
      refine qb_icge hX 21 88 rfl (by decide) ?_ ?_
      ·
        exact qb_exit (fun σ h => qj_wk (ρ' := [none, some (.int p1), some (.int s3.1), some (.int s3.2.1), none, none]) (qw_n (qw_s (qw_s (qw_s (qw_n (qw_n (qw_0))))))) h)
      ·
        refine qb_aload_n hX 22 rfl rfl ?_
        refine qb_iload hX 23 rfl rfl ?_
        refine qb_iload hX 24 rfl rfl ?_
        refine qb_iconst hX 25 1 rfl (by decide) ?_
        refine qb_iadd hX 26 rfl ?_
        refine qb_callV hX 27 rfl cv_Model_349 (jm_Model_trades (qk_GI hX) this s3.2.2 (s3.2.2 + 1) hthis ) (ci := 9) hthis ⟨rfl, rfl, rfl, by decide, by decide⟩ rfl (by exact Nat.le_of_ble_eq_true rfl) ?_
        refine qb_aload_n hX 28 rfl rfl ?_
        refine qb_callI hX 29 rfl cv_Model_254 (jm_Model_pours (qk_GI hX) this  hthis ) (ci := 9) hthis ⟨rfl, rfl, rfl, by decide, by decide⟩ rfl (by exact Nat.le_of_ble_eq_true rfl) (fun x5 => ?_)
        refine qb_istore hX 30 ([some (.ref (qx_ad X this)), some (.int p1), some (.int s3.1), some (.int s3.2.1), some (.int s3.2.2), some (.int x5)]) rfl (by decide) rfl ?_
        refine qb_aload_n hX 31 rfl rfl ?_
        refine qb_callV hX 32 rfl cv_Model_307 (jm_Model_putsBack (qk_GI hX) this  hthis ) (ci := 9) hthis ⟨rfl, rfl, rfl, by decide, by decide⟩ rfl (by exact Nat.le_of_ble_eq_true rfl) ?_
        refine qb_iload hX 33 rfl rfl ?_
        refine qb_join 82 (fun s6 => [some (.ref (qx_ad X this)), some (.int p1), some (.int s6.1), some (.int s6.2), some (.int s3.2.2), none]) (fun s6 => []) ?_ ?_
        ·
          refine qb_iflt hX 34 82 rfl (by decide) ?_ ?_
          ·
            exact qb_exit (fun σ h => qj_wk (ρ' := [some (.ref (qx_ad X this)), some (.int p1), some (.int s3.1), some (.int s3.2.1), some (.int s3.2.2), none]) (qw_s (qw_s (qw_s (qw_s (qw_s (qw_n (qw_0))))))) h)
          ·
            refine qb_iload_n hX 35 rfl rfl ?_
            refine qb_bipush hX 36 (-2) rfl (by decide) ?_
            refine qb_join2 76 (fun s7 => [some (.ref (qx_ad X this)), some (.int p1), none, none, some (.int s3.2.2), some (.int x5)]) (fun s7 => []) ?_ ?_
            ·
              refine qb_iceq hX 37 76 rfl (by decide) ?_ ?_
              ·
                exact qb_exit (fun σ h => qj_wk (ρ' := [some (.ref (qx_ad X this)), some (.int p1), none, none, some (.int s3.2.2), some (.int x5)]) (qw_s (qw_s (qw_n (qw_n (qw_s (qw_s (qw_0))))))) h)
              ·
                refine qb_iload hX 38 rfl rfl ?_
                refine qb_iload_n hX 39 rfl rfl ?_
                refine qb_iclt hX 40 76 rfl (by decide) ?_ ?_
                ·
                  exact qb_exit (fun σ h => qj_wk (ρ' := [some (.ref (qx_ad X this)), some (.int p1), none, none, some (.int s3.2.2), some (.int x5)]) (qw_s (qw_s (qw_n (qw_n (qw_s (qw_s (qw_0))))))) h)
                ·
                  exact qb_exit (fun σ h => qj_goto hX 41 rfl (by decide) (qj_wk (ρ' := [some (.ref (qx_ad X this)), some (.int p1), some (.int s3.1), some (.int s3.2.1), some (.int s3.2.2), none]) (qw_s (qw_s (qw_s (qw_s (qw_s (qw_n (qw_0))))))) h))
            · intro s7
              refine qb_iload hX 42 rfl rfl ?_
              refine qb_istore_n hX 43 ([some (.ref (qx_ad X this)), some (.int p1), some (.int s3.2.2), none, some (.int s3.2.2), some (.int x5)]) rfl (by decide) rfl ?_
              refine qb_iload hX 44 rfl rfl ?_
              refine qb_istore_n hX 45 ([some (.ref (qx_ad X this)), some (.int p1), some (.int s3.2.2), some (.int x5), some (.int s3.2.2), some (.int x5)]) rfl (by decide) rfl ?_
              exact qb_exit (fun σ h => qj_wk (ρ' := [some (.ref (qx_ad X this)), some (.int p1), some (.int s3.2.2), some (.int x5), some (.int s3.2.2), none]) (qw_s (qw_s (qw_s (qw_s (qw_s (qw_n (qw_0))))))) h)
        · intro s6
          refine qb_iinc hX 46 1 (fun x8 => [some (.ref (qx_ad X this)), some (.int p1), some (.int s6.1), some (.int s6.2), some (.int x8), none]) rfl (by decide) (by decide) rfl (fun _ => rfl) (fun x8 => ?_)
          exact qb_exit (fun σ h => qj_goto hX 47 rfl (by decide) (qj_wk (ρ' := [some (.ref (qx_ad X this)), some (.int p1), some (.int s6.1), some (.int s6.2), some (.int x8), none]) (qw_s (qw_s (qw_s (qw_s (qw_s (qw_n (qw_0))))))) h))
    · intro s2
      refine qb_iload_n hX 48 rfl rfl ?_
      refine qb_ifne hX 49 96 rfl (by decide) ?_ ?_
      ·
        refine qb_iload_n hX 52 rfl rfl ?_
        exact qb_iret hX 53 rfl hR (fun _ h => h)
      ·
        refine qb_iload_n hX 50 rfl rfl ?_
        refine qb_goto hX 51 (tgt := 97) rfl (by decide) ?_
        exact qb_iret hX 53 rfl hR (fun _ h => h)
  ·
    refine qb_iconst hX 6 (-1) rfl (by decide) ?_
    exact qb_iret hX 7 rfl hR (fun _ h => h)
theorem jm_Model_order {l : Launch} {G : qm_G} (hG : qm_GI G) (this : Nat) (p1 : Int32) (hthis : (qm_kd this).1 = 19) : qm_MI l G jy_Model_order prog_11_method_77_code 6 (some .int) 10 248 [.ref (G.1 this), .int p1] (jf_Model_order this p1) :=
  qm_metI (by decide +kernel) jd_Model_order (fun v hv => by simp only [List.mem_cons, List.not_mem_nil, or_false] at hv; rcases hv with rfl | rfl <;> rfl) (by exact Nat.le_of_ble_eq_true rfl) hG rfl (fun X hl hg hX r0 σ0 hR => by subst hl; subst hg; exact jb_Model_order hX hR this p1 hthis)
def jl_Model_feed : List qm_I := [(0, .aload_n 0, 1, 1), (1, .getfield 352, 3, 4), (4, .sipush 380, 3, 7), (7, .if_icmp .le 5, 3, 10), (10, .iconst (-1), 1, 11), (11, .ireturn, 1, 12), (12, .iconst 0, 1, 13), (13, .istore 6, 2, 15), (15, .iload 6, 2, 17), (17, .bipush 20, 2, 19), (19, .if_icmp .ge 83, 3, 22), (22, .iload 6, 2, 24), (24, .iconst 4, 1, 25), (25, .if_icmp .ge 7, 3, 28), (28, .iload_n 1, 1, 29), (29, .goto 39, 3, 32), (32, .iload 6, 2, 34), (34, .bipush 8, 2, 36), (36, .if_icmp .ge 7, 3, 39), (39, .iload_n 2, 1, 40), (40, .goto 28, 3, 43), (43, .iload 6, 2, 45), (45, .bipush 12, 2, 47), (47, .if_icmp .ge 7, 3, 50), (50, .iload_n 3, 1, 51), (51, .goto 17, 3, 54), (54, .iload 6, 2, 56), (56, .bipush 16, 2, 58), (58, .if_icmp .ge 8, 3, 61), (61, .iload 4, 2, 63), (63, .goto 5, 3, 66), (66, .iload 5, 2, 68), (68, .istore 7, 2, 70), (70, .aload_n 0, 1, 71), (71, .getfield 116, 3, 74), (74, .aload_n 0, 1, 75), (75, .getfield 352, 3, 78), (78, .iload 6, 2, 80), (80, .iadd, 1, 81), (81, .iload 7, 2, 83), (83, .bipush 24, 2, 85), (85, .bipush 8, 2, 87), (87, .iload 6, 2, 89), (89, .iconst 4, 1, 90), (90, .irem, 1, 91), (91, .imul, 1, 92), (92, .isub, 1, 93), (93, .ishr, 1, 94), (94, .i2b, 1, 95), (95, .bastore, 1, 96), (96, .iinc 6 1, 3, 99), (99, .goto (-84), 3, 102), (102, .aload_n 0, 1, 103), (103, .dup, 1, 104), (104, .getfield 352, 3, 107), (107, .bipush 20, 2, 109), (109, .iadd, 1, 110), (110, .putfield 352, 3, 113), (113, .aload_n 0, 1, 114), (114, .getfield 352, 3, 117), (117, .ireturn, 1, 118)]
theorem jd_Model_feed : qm_D prog_11_method_79_code jl_Model_feed := qm_D_of (by decide +kernel)
noncomputable def jf_Model_feed (this : Nat) (p1 : Int32) (p2 : Int32) (p3 : Int32) (p4 : Int32) (p5 : Int32) : qm_M Int32 :=
  mB (mGt this 45) fun x1 =>
  if x1 ≤ 380 then
    mB (α := Unit) (
      mW (S := Int32) (α := Unit) (fun s3 =>
        if 20 ≤ s3 then
          mP (Sum.inr ())
        else
          mB (α := Int32) (
            if 4 ≤ s3 then
              if 8 ≤ s3 then
                if 12 ≤ s3 then
                  if 16 ≤ s3 then
                    mP p5
                  else
                    mP p4
                else
                  mP p3
              else
                mP p2
            else
              mP p1) fun s4 =>
          mB (mGt this 45) fun x5 =>
          mB (mRm s3 4) fun x6 =>
          mB (mSb (qm_rf this 44) (x5 + s3) ((Int32.toInt8 (s4 >>> ((24 - (8 * x6)) &&& 31))).toInt32)) fun _ =>
          mB (mP (s3 + 1)) fun x7 =>
          mP (Sum.inl x7)) 0) fun s2 =>
    mB (mGt this 45) fun x8 =>
    mB (mPt this 45 (x8 + 20)) fun _ =>
    mB (mGt this 45) fun x9 =>
    mP x9
  else
    mP (-1)
set_option maxRecDepth 20000 in
set_option maxHeartbeats 4000000 in
theorem jb_Model_feed {X : qm_X} (hX : qm_ok X qr_Model prog_11_method_79_code 8 0 0 jl_Model_feed) {r0 : Int32} {σ0 : qm_Mem} (hR : qm_RI X r0 σ0 .int) (this : Nat) (p1 : Int32) (p2 : Int32) (p3 : Int32) (p4 : Int32) (p5 : Int32) (hthis : (qm_kd this).1 = 19) : qm_B X (jf_Model_feed this p1 p2 p3 p4 p5) 0 [some (.ref (qx_ad X this)), some (.int p1), some (.int p2), some (.int p3), some (.int p4), some (.int p5), none, none] [] (fun r σ1 => r = r0 ∧ σ1 = σ0) := by
  unfold jf_Model_feed
  refine qb_aload_n hX 0 rfl rfl ?_
  refine qb_get hX 1 rfl fl_Model_352 hthis rfl (fun x1 => ?_)
  refine qb_sipush hX 2 380 rfl (by decide) ?_
  refine qb_icle hX 3 12 rfl (by decide) ?_ ?_
  ·
    refine qb_iconst hX 6 0 rfl (by decide) ?_
    refine qb_istore hX 7 ([some (.ref (qx_ad X this)), some (.int p1), some (.int p2), some (.int p3), some (.int p4), some (.int p5), some (.int 0), none]) rfl (by decide) rfl ?_
    refine qb_join 102 (fun s2 => [some (.ref (qx_ad X this)), none, none, none, none, none, none, none]) (fun s2 => []) ?_ ?_
    ·
      refine qb_loopw (0) (fun s3 => [some (.ref (qx_ad X this)), some (.int p1), some (.int p2), some (.int p3), some (.int p4), some (.int p5), some (.int s3), none]) (qw_s (qw_s (qw_s (qw_s (qw_s (qw_s (qw_s (qw_n (qw_0))))))))) (fun s3 => ?_)
      refine qb_iload hX 8 rfl rfl ?_
      refine qb_bipush hX 9 20 rfl (by decide) ?_
      refine qb_icge hX 10 102 rfl (by decide) ?_ ?_
      ·
        exact qb_exit (fun σ h => qj_wk (ρ' := [some (.ref (qx_ad X this)), none, none, none, none, none, none, none]) (qw_s (qw_n (qw_n (qw_n (qw_n (qw_n (qw_n (qw_n (qw_0))))))))) h)
      ·
        refine qb_iload hX 11 rfl rfl ?_
        refine qb_iconst hX 12 4 rfl (by decide) ?_
        refine qb_join 68 (fun s4 => [some (.ref (qx_ad X this)), some (.int p1), some (.int p2), some (.int p3), some (.int p4), some (.int p5), some (.int s3), none]) (fun s4 => [.int s4]) ?_ ?_
        ·
          refine qb_icge hX 13 32 rfl (by decide) ?_ ?_
          ·
            refine qb_iload hX 16 rfl rfl ?_
            refine qb_bipush hX 17 8 rfl (by decide) ?_
            refine qb_icge hX 18 43 rfl (by decide) ?_ ?_
            ·
              refine qb_iload hX 21 rfl rfl ?_
              refine qb_bipush hX 22 12 rfl (by decide) ?_
              refine qb_icge hX 23 54 rfl (by decide) ?_ ?_
              ·
                refine qb_iload hX 26 rfl rfl ?_
                refine qb_bipush hX 27 16 rfl (by decide) ?_
                refine qb_icge hX 28 66 rfl (by decide) ?_ ?_
                ·
                  refine qb_iload hX 31 rfl rfl ?_
                  exact qb_exit (fun σ h => qj_wk (ρ' := [some (.ref (qx_ad X this)), some (.int p1), some (.int p2), some (.int p3), some (.int p4), some (.int p5), some (.int s3), none]) (qw_s (qw_s (qw_s (qw_s (qw_s (qw_s (qw_s (qw_n (qw_0))))))))) h)
                ·
                  refine qb_iload hX 29 rfl rfl ?_
                  exact qb_exit (fun σ h => qj_goto hX 30 rfl (by decide) (qj_wk (ρ' := [some (.ref (qx_ad X this)), some (.int p1), some (.int p2), some (.int p3), some (.int p4), some (.int p5), some (.int s3), none]) (qw_s (qw_s (qw_s (qw_s (qw_s (qw_s (qw_s (qw_n (qw_0))))))))) h))
              ·
                refine qb_iload_n hX 24 rfl rfl ?_
                exact qb_exit (fun σ h => qj_goto hX 25 rfl (by decide) (qj_wk (ρ' := [some (.ref (qx_ad X this)), some (.int p1), some (.int p2), some (.int p3), some (.int p4), some (.int p5), some (.int s3), none]) (qw_s (qw_s (qw_s (qw_s (qw_s (qw_s (qw_s (qw_n (qw_0))))))))) h))
            ·
              refine qb_iload_n hX 19 rfl rfl ?_
              exact qb_exit (fun σ h => qj_goto hX 20 rfl (by decide) (qj_wk (ρ' := [some (.ref (qx_ad X this)), some (.int p1), some (.int p2), some (.int p3), some (.int p4), some (.int p5), some (.int s3), none]) (qw_s (qw_s (qw_s (qw_s (qw_s (qw_s (qw_s (qw_n (qw_0))))))))) h))
          ·
            refine qb_iload_n hX 14 rfl rfl ?_
            exact qb_exit (fun σ h => qj_goto hX 15 rfl (by decide) (qj_wk (ρ' := [some (.ref (qx_ad X this)), some (.int p1), some (.int p2), some (.int p3), some (.int p4), some (.int p5), some (.int s3), none]) (qw_s (qw_s (qw_s (qw_s (qw_s (qw_s (qw_s (qw_n (qw_0))))))))) h))
        · intro s4
          refine qb_istore hX 32 ([some (.ref (qx_ad X this)), some (.int p1), some (.int p2), some (.int p3), some (.int p4), some (.int p5), some (.int s3), some (.int s4)]) rfl (by decide) rfl ?_
          refine qb_aload_n hX 33 rfl rfl ?_
          refine qb_getR hX 34 rfl fl_Model_116 hthis rfl ?_
          refine qb_aload_n hX 35 rfl rfl ?_
          refine qb_get hX 36 rfl fl_Model_352 hthis rfl (fun x5 => ?_)
          refine qb_iload hX 37 rfl rfl ?_
          refine qb_iadd hX 38 rfl ?_
          refine qb_iload hX 39 rfl rfl ?_
          refine qb_bipush hX 40 24 rfl (by decide) ?_
          refine qb_bipush hX 41 8 rfl (by decide) ?_
          refine qb_iload hX 42 rfl rfl ?_
          refine qb_iconst hX 43 4 rfl (by decide) ?_
          refine qb_irem hX 44 rfl (fun x6 => ?_)
          refine qb_imul hX 45 rfl ?_
          refine qb_isub hX 46 rfl ?_
          refine qb_ishr hX 47 rfl ?_
          refine qb_i2b hX 48 rfl ?_
          refine qb_bast hX 49 rfl (kf_Model_44 hthis) ?_
          refine qb_iinc hX 50 1 (fun x7 => [some (.ref (qx_ad X this)), some (.int p1), some (.int p2), some (.int p3), some (.int p4), some (.int p5), some (.int x7), some (.int s4)]) rfl (by decide) (by decide) rfl (fun _ => rfl) (fun x7 => ?_)
          exact qb_exit (fun σ h => qj_goto hX 51 rfl (by decide) (qj_wk (ρ' := [some (.ref (qx_ad X this)), some (.int p1), some (.int p2), some (.int p3), some (.int p4), some (.int p5), some (.int x7), none]) (qw_s (qw_s (qw_s (qw_s (qw_s (qw_s (qw_s (qw_n (qw_0))))))))) h))
    · intro s2
      refine qb_aload_n hX 52 rfl rfl ?_
      refine qb_dup hX 53 rfl rfl ?_
      refine qb_get hX 54 rfl fl_Model_352 hthis rfl (fun x8 => ?_)
      refine qb_bipush hX 55 20 rfl (by decide) ?_
      refine qb_iadd hX 56 rfl ?_
      refine qb_put hX 57 rfl fp_Model_352 hthis ?_
      refine qb_aload_n hX 58 rfl rfl ?_
      refine qb_get hX 59 rfl fl_Model_352 hthis rfl (fun x9 => ?_)
      exact qb_iret hX 60 rfl hR (fun _ h => h)
  ·
    refine qb_iconst hX 4 (-1) rfl (by decide) ?_
    exact qb_iret hX 5 rfl hR (fun _ h => h)
theorem jm_Model_feed {l : Launch} {G : qm_G} (hG : qm_GI G) (this : Nat) (p1 : Int32) (p2 : Int32) (p3 : Int32) (p4 : Int32) (p5 : Int32) (hthis : (qm_kd this).1 = 19) : qm_MI l G jy_Model_feed prog_11_method_79_code 8 (some .int) 0 0 [.ref (G.1 this), .int p1, .int p2, .int p3, .int p4, .int p5] (jf_Model_feed this p1 p2 p3 p4 p5) :=
  qm_metI (by decide +kernel) jd_Model_feed (fun v hv => by simp only [List.mem_cons, List.not_mem_nil, or_false] at hv; rcases hv with rfl | rfl | rfl | rfl | rfl | rfl <;> rfl) (by exact Nat.le_of_ble_eq_true rfl) hG rfl (fun X hl hg hX r0 σ0 hR => by subst hl; subst hg; exact jb_Model_feed hX hR this p1 p2 p3 p4 p5 hthis)
def jl_Model_end : List qm_I := [(0, .iload_n 1, 1, 1), (1, .i2l, 1, 2), (2, .lconst 0, 1, 3), (3, .aload_n 0, 1, 4), (4, .getfield 352, 3, 7), (7, .i2l, 1, 8), (8, .invokestatic 129, 3, 11), (11, .ifCond .ne 5, 3, 14), (14, .iconst (-1), 1, 15), (15, .ireturn, 1, 16), (16, .aload_n 0, 1, 17), (17, .iload_n 1, 1, 18), (18, .putfield 352, 3, 21), (21, .iload_n 1, 1, 22), (22, .ireturn, 1, 23)]
theorem jd_Model_end : qm_D prog_11_method_80_code jl_Model_end := qm_D_of (by decide +kernel)
noncomputable def jf_Model_end (this : Nat) (p1 : Int32) : qm_M Int32 :=
  mB (mGt this 45) fun x1 =>
  mB (jf_Model_in (Int32.toInt64 p1) (0 : Int64) (Int32.toInt64 x1)) fun x2 =>
  if ¬ x2 = 0 then
    mB (mPt this 45 p1) fun _ =>
    mP p1
  else
    mP (-1)
set_option maxRecDepth 20000 in
set_option maxHeartbeats 4000000 in
theorem jb_Model_end {X : qm_X} (hX : qm_ok X qr_Model prog_11_method_80_code 2 1 25 jl_Model_end) {r0 : Int32} {σ0 : qm_Mem} (hR : qm_RI X r0 σ0 .int) (this : Nat) (p1 : Int32) (hthis : (qm_kd this).1 = 19) : qm_B X (jf_Model_end this p1) 0 [some (.ref (qx_ad X this)), some (.int p1)] [] (fun r σ1 => r = r0 ∧ σ1 = σ0) := by
  unfold jf_Model_end
  refine qb_iload_n hX 0 rfl rfl ?_
  refine qb_i2l hX 1 rfl ?_
  refine qb_lconst hX 2 0 rfl (by decide) ?_
  refine qb_aload_n hX 3 rfl rfl ?_
  refine qb_get hX 4 rfl fl_Model_352 hthis rfl (fun x1 => ?_)
  refine qb_i2l hX 5 rfl ?_
  refine qb_calSI hX 6 rfl cv_Model_129 (jm_Model_in (qk_GI hX) (Int32.toInt64 p1) (0 : Int64) (Int32.toInt64 x1) ) ⟨rfl, by decide, by decide⟩ rfl (by exact Nat.le_of_ble_eq_true rfl) (fun x2 => ?_)
  refine qb_ifne hX 7 16 rfl (by decide) ?_ ?_
  ·
    refine qb_aload_n hX 10 rfl rfl ?_
    refine qb_iload_n hX 11 rfl rfl ?_
    refine qb_put hX 12 rfl fp_Model_352 hthis ?_
    refine qb_iload_n hX 13 rfl rfl ?_
    exact qb_iret hX 14 rfl hR (fun _ h => h)
  ·
    refine qb_iconst hX 8 (-1) rfl (by decide) ?_
    exact qb_iret hX 9 rfl hR (fun _ h => h)
theorem jm_Model_end {l : Launch} {G : qm_G} (hG : qm_GI G) (this : Nat) (p1 : Int32) (hthis : (qm_kd this).1 = 19) : qm_MI l G jy_Model_end prog_11_method_80_code 2 (some .int) 1 25 [.ref (G.1 this), .int p1] (jf_Model_end this p1) :=
  qm_metI (by decide +kernel) jd_Model_end (fun v hv => by simp only [List.mem_cons, List.not_mem_nil, or_false] at hv; rcases hv with rfl | rfl <;> rfl) (by exact Nat.le_of_ble_eq_true rfl) hG rfl (fun X hl hg hX r0 σ0 hR => by subst hl; subst hg; exact jb_Model_end hX hR this p1 hthis)
def jl_Model_byteAt : List qm_I := [(0, .iload_n 1, 1, 1), (1, .aload_n 0, 1, 2), (2, .getfield 352, 3, 5), (5, .if_icmp .ge 16, 3, 8), (8, .aload_n 0, 1, 9), (9, .getfield 116, 3, 12), (12, .iload_n 1, 1, 13), (13, .baload, 1, 14), (14, .sipush 255, 3, 17), (17, .iand, 1, 18), (18, .goto 4, 3, 21), (21, .iconst (-1), 1, 22), (22, .ireturn, 1, 23)]
theorem jd_Model_byteAt : qm_D prog_11_method_81_code jl_Model_byteAt := qm_D_of (by decide +kernel)
noncomputable def jf_Model_byteAt (this : Nat) (p1 : Int32) : qm_M Int32 :=
  mB (mGt this 45) fun x1 =>
  if x1 ≤ p1 then
    mP (-1)
  else
    mB (mLd (qm_rf this 44) p1) fun x2 =>
    mP (x2 &&& 255)
set_option maxRecDepth 20000 in
set_option maxHeartbeats 4000000 in
theorem jb_Model_byteAt {X : qm_X} (hX : qm_ok X qr_Model prog_11_method_81_code 2 0 0 jl_Model_byteAt) {r0 : Int32} {σ0 : qm_Mem} (hR : qm_RI X r0 σ0 .int) (this : Nat) (p1 : Int32) (hthis : (qm_kd this).1 = 19) : qm_B X (jf_Model_byteAt this p1) 0 [some (.ref (qx_ad X this)), some (.int p1)] [] (fun r σ1 => r = r0 ∧ σ1 = σ0) := by
  unfold jf_Model_byteAt
  refine qb_iload_n hX 0 rfl rfl ?_
  refine qb_aload_n hX 1 rfl rfl ?_
  refine qb_get hX 2 rfl fl_Model_352 hthis rfl (fun x1 => ?_)
  refine qb_icge hX 3 21 rfl (by decide) ?_ ?_
  ·
    refine qb_iconst hX 11 (-1) rfl (by decide) ?_
    exact qb_iret hX 12 rfl hR (fun _ h => h)
  ·
    refine qb_aload_n hX 4 rfl rfl ?_
    refine qb_getR hX 5 rfl fl_Model_116 hthis rfl ?_
    refine qb_iload_n hX 6 rfl rfl ?_
    refine qb_bald hX 7 rfl (kf_Model_44 hthis) (fun x2 => ?_)
    refine qb_sipush hX 8 255 rfl (by decide) ?_
    refine qb_iand hX 9 rfl ?_
    refine qb_goto hX 10 (tgt := 22) rfl (by decide) ?_
    exact qb_iret hX 12 rfl hR (fun _ h => h)
theorem jm_Model_byteAt {l : Launch} {G : qm_G} (hG : qm_GI G) (this : Nat) (p1 : Int32) (hthis : (qm_kd this).1 = 19) : qm_MI l G jy_Model_byteAt prog_11_method_81_code 2 (some .int) 0 0 [.ref (G.1 this), .int p1] (jf_Model_byteAt this p1) :=
  qm_metI (by decide +kernel) jd_Model_byteAt (fun v hv => by simp only [List.mem_cons, List.not_mem_nil, or_false] at hv; rcases hv with rfl | rfl <;> rfl) (by exact Nat.le_of_ble_eq_true rfl) hG rfl (fun X hl hg hX r0 σ0 hR => by subst hl; subst hg; exact jb_Model_byteAt hX hR this p1 hthis)
def jl_Model_nextByte : List qm_I := [(0, .aload_n 0, 1, 1), (1, .aload_n 0, 1, 2), (2, .getfield 355, 3, 5), (5, .invokevirtual 358, 3, 8), (8, .bipush 32, 2, 10), (10, .if_icmp .ne 16, 3, 13), (13, .aload_n 0, 1, 14), (14, .dup, 1, 15), (15, .getfield 355, 3, 18), (18, .iconst 1, 1, 19), (19, .iadd, 1, 20), (20, .putfield 355, 3, 23), (23, .goto (-23), 3, 26), (26, .aload_n 0, 1, 27), (27, .aload_n 0, 1, 28), (28, .getfield 355, 3, 31), (31, .invokevirtual 358, 3, 34), (34, .ireturn, 1, 35)]
theorem jd_Model_nextByte : qm_D prog_11_method_82_code jl_Model_nextByte := qm_D_of (by decide +kernel)
noncomputable def jf_Model_nextByte (this : Nat) : qm_M Int32 :=
  mB (α := Unit) (
    mW (S := Unit) (α := Unit) (fun s2 =>
      mB (mGt this 46) fun x3 =>
      mB (jf_Model_byteAt this x3) fun x4 =>
      if ¬ x4 = 32 then
        mP (Sum.inr ())
      else
        mB (mGt this 46) fun x5 =>
        mB (mPt this 46 (x5 + 1)) fun _ =>
        mP (Sum.inl ())) ()) fun s1 =>
  mB (mGt this 46) fun x6 =>
  mB (jf_Model_byteAt this x6) fun x7 =>
  mP x7
set_option maxRecDepth 20000 in
set_option maxHeartbeats 4000000 in
theorem jb_Model_nextByte {X : qm_X} (hX : qm_ok X qr_Model prog_11_method_82_code 1 1 21 jl_Model_nextByte) {r0 : Int32} {σ0 : qm_Mem} (hR : qm_RI X r0 σ0 .int) (this : Nat) (hthis : (qm_kd this).1 = 19) : qm_B X (jf_Model_nextByte this) 0 [some (.ref (qx_ad X this))] [] (fun r σ1 => r = r0 ∧ σ1 = σ0) := by
  unfold jf_Model_nextByte
  refine qb_join 26 (fun s1 => [some (.ref (qx_ad X this))]) (fun s1 => []) ?_ ?_
  ·
    refine qb_loopw (()) (fun s2 => [some (.ref (qx_ad X this))]) (qw_s (qw_0)) (fun s2 => ?_)
    refine qb_aload_n hX 0 rfl rfl ?_
    refine qb_aload_n hX 1 rfl rfl ?_
    refine qb_get hX 2 rfl fl_Model_355 hthis rfl (fun x3 => ?_)
    refine qb_callI hX 3 rfl cv_Model_358 (jm_Model_byteAt (qk_GI hX) this x3 hthis ) (ci := 9) hthis ⟨rfl, rfl, rfl, by decide, by decide⟩ rfl (by exact Nat.le_of_ble_eq_true rfl) (fun x4 => ?_)
    refine qb_bipush hX 4 32 rfl (by decide) ?_
    refine qb_icne hX 5 26 rfl (by decide) ?_ ?_
    ·
      exact qb_exit (fun σ h => qj_wk (ρ' := [some (.ref (qx_ad X this))]) (qw_s (qw_0)) h)
    ·
      refine qb_aload_n hX 6 rfl rfl ?_
      refine qb_dup hX 7 rfl rfl ?_
      refine qb_get hX 8 rfl fl_Model_355 hthis rfl (fun x5 => ?_)
      refine qb_iconst hX 9 1 rfl (by decide) ?_
      refine qb_iadd hX 10 rfl ?_
      refine qb_put hX 11 rfl fp_Model_355 hthis ?_
      exact qb_exit (fun σ h => qj_goto hX 12 rfl (by decide) (qj_wk (ρ' := [some (.ref (qx_ad X this))]) (qw_s (qw_0)) h))
  · intro s1
    refine qb_aload_n hX 13 rfl rfl ?_
    refine qb_aload_n hX 14 rfl rfl ?_
    refine qb_get hX 15 rfl fl_Model_355 hthis rfl (fun x6 => ?_)
    refine qb_callI hX 16 rfl cv_Model_358 (jm_Model_byteAt (qk_GI hX) this x6 hthis ) (ci := 9) hthis ⟨rfl, rfl, rfl, by decide, by decide⟩ rfl (by exact Nat.le_of_ble_eq_true rfl) (fun x7 => ?_)
    exact qb_iret hX 17 rfl hR (fun _ h => h)
theorem jm_Model_nextByte {l : Launch} {G : qm_G} (hG : qm_GI G) (this : Nat) (hthis : (qm_kd this).1 = 19) : qm_MI l G jy_Model_nextByte prog_11_method_82_code 1 (some .int) 1 21 [.ref (G.1 this)] (jf_Model_nextByte this) :=
  qm_metI (by decide +kernel) jd_Model_nextByte (fun v hv => by simp only [List.mem_cons, List.not_mem_nil, or_false] at hv; rcases hv with rfl <;> rfl) (by exact Nat.le_of_ble_eq_true rfl) hG rfl (fun X hl hg hX r0 σ0 hR => by subst hl; subst hg; exact jb_Model_nextByte hX hR this hthis)
def jl_Model_fails : List qm_I := [(0, .aload_n 0, 1, 1), (1, .bipush 8, 2, 3), (3, .iload_n 2, 1, 4), (4, .imul, 1, 5), (5, .iload_n 1, 1, 6), (6, .iadd, 1, 7), (7, .putfield 361, 3, 10), (10, .iconst 0, 1, 11), (11, .ireturn, 1, 12)]
theorem jd_Model_fails : qm_D prog_11_method_83_code jl_Model_fails := qm_D_of (by decide +kernel)
noncomputable def jf_Model_fails (this : Nat) (p1 : Int32) (p2 : Int32) : qm_M Int32 :=
  mB (mPt this 47 ((8 * p2) + p1)) fun _ =>
  mP 0
set_option maxRecDepth 20000 in
set_option maxHeartbeats 4000000 in
theorem jb_Model_fails {X : qm_X} (hX : qm_ok X qr_Model prog_11_method_83_code 3 0 0 jl_Model_fails) {r0 : Int32} {σ0 : qm_Mem} (hR : qm_RI X r0 σ0 .boolean) (this : Nat) (p1 : Int32) (p2 : Int32) (hthis : (qm_kd this).1 = 19) : qm_B X (jf_Model_fails this p1 p2) 0 [some (.ref (qx_ad X this)), some (.int p1), some (.int p2)] [] (fun r σ1 => r = r0 ∧ σ1 = σ0) := by
  unfold jf_Model_fails
  refine qb_aload_n hX 0 rfl rfl ?_
  refine qb_bipush hX 1 8 rfl (by decide) ?_
  refine qb_iload_n hX 2 rfl rfl ?_
  refine qb_imul hX 3 rfl ?_
  refine qb_iload_n hX 4 rfl rfl ?_
  refine qb_iadd hX 5 rfl ?_
  refine qb_put hX 6 rfl fp_Model_361 hthis ?_
  refine qb_iconst hX 7 0 rfl (by decide) ?_
  exact qb_zret1 hX 8 rfl hR (by decide) (fun _ h => h)
theorem jm_Model_fails {l : Launch} {G : qm_G} (hG : qm_GI G) (this : Nat) (p1 : Int32) (p2 : Int32) (hthis : (qm_kd this).1 = 19) : qm_MI l G jy_Model_fails prog_11_method_83_code 3 (some .boolean) 0 0 [.ref (G.1 this), .int p1, .int p2] (jf_Model_fails this p1 p2) :=
  qm_metI (by decide +kernel) jd_Model_fails (fun v hv => by simp only [List.mem_cons, List.not_mem_nil, or_false] at hv; rcases hv with rfl | rfl | rfl <;> rfl) (by exact Nat.le_of_ble_eq_true rfl) hG rfl (fun X hl hg hX r0 σ0 hR => by subst hl; subst hg; exact jb_Model_fails hX hR this p1 p2 hthis)
def jl_Model_readsNumber : List qm_I := [(0, .aload_n 0, 1, 1), (1, .invokevirtual 364, 3, 4), (4, .i2l, 1, 5), (5, .ldc2_w 380, 3, 8), (8, .ldc2_w 382, 3, 11), (11, .invokestatic 129, 3, 14), (14, .ifCond .ne 13, 3, 17), (17, .aload_n 0, 1, 18), (18, .iconst 1, 1, 19), (19, .aload_n 0, 1, 20), (20, .getfield 355, 3, 23), (23, .invokevirtual 384, 3, 26), (26, .ireturn, 1, 27), (27, .aload_n 0, 1, 28), (28, .aload_n 0, 1, 29), (29, .getfield 355, 3, 32), (32, .putfield 387, 3, 35), (35, .aload_n 0, 1, 36), (36, .iconst 0, 1, 37), (37, .putfield 390, 3, 40), (40, .aload_n 0, 1, 41), (41, .aload_n 0, 1, 42), (42, .getfield 355, 3, 45), (45, .invokevirtual 358, 3, 48), (48, .i2l, 1, 49), (49, .ldc2_w 380, 3, 52), (52, .ldc2_w 382, 3, 55), (55, .invokestatic 129, 3, 58), (58, .ifCond .eq 49, 3, 61), (61, .aload_n 0, 1, 62), (62, .getfield 390, 3, 65), (65, .sipush 10000, 3, 68), (68, .if_icmp .ge 26, 3, 71), (71, .aload_n 0, 1, 72), (72, .bipush 10, 2, 74), (74, .aload_n 0, 1, 75), (75, .getfield 390, 3, 78), (78, .imul, 1, 79), (79, .aload_n 0, 1, 80), (80, .aload_n 0, 1, 81), (81, .getfield 355, 3, 84), (84, .invokevirtual 358, 3, 87), (87, .iadd, 1, 88), (88, .bipush 48, 2, 90), (90, .isub, 1, 91), (91, .putfield 390, 3, 94), (94, .aload_n 0, 1, 95), (95, .dup, 1, 96), (96, .getfield 355, 3, 99), (99, .iconst 1, 1, 100), (100, .iadd, 1, 101), (101, .putfield 355, 3, 104), (104, .goto (-64), 3, 107), (107, .aload_n 0, 1, 108), (108, .getfield 390, 3, 111), (111, .i2l, 1, 112), (112, .iload_n 1, 1, 113), (113, .i2l, 1, 114), (114, .iload_n 2, 1, 115), (115, .i2l, 1, 116), (116, .invokestatic 129, 3, 119), (119, .ifCond .ne 15, 3, 122), (122, .aload_n 0, 1, 123), (123, .iconst 2, 1, 124), (124, .aload_n 0, 1, 125), (125, .getfield 387, 3, 128), (128, .invokevirtual 384, 3, 131), (131, .ifCond .eq 7, 3, 134), (134, .iconst 1, 1, 135), (135, .goto 4, 3, 138), (138, .iconst 0, 1, 139), (139, .ireturn, 1, 140)]
theorem jd_Model_readsNumber : qm_D prog_11_method_85_code jl_Model_readsNumber := qm_D_of (by decide +kernel)
noncomputable def jf_Model_readsNumber (this : Nat) (p1 : Int32) (p2 : Int32) : qm_M Int32 :=
  mB (jf_Model_nextByte this) fun x1 =>
  mB (jf_Model_in (Int32.toInt64 x1) (48 : Int64) (57 : Int64)) fun x2 =>
  if ¬ x2 = 0 then
    mB (mGt this 46) fun x3 =>
    mB (mPt this 49 x3) fun _ =>
    mB (mPt this 48 0) fun _ =>
    mB (α := Unit) (
      mW (S := Unit) (α := Unit) (fun s5 =>
        mB (mGt this 46) fun x6 =>
        mB (jf_Model_byteAt this x6) fun x7 =>
        mB (jf_Model_in (Int32.toInt64 x7) (48 : Int64) (57 : Int64)) fun x8 =>
        if x8 = 0 then
          mP (Sum.inr ())
        else
          mB (mGt this 48) fun x9 =>
          mB (α := Unit) (
            if 10000 ≤ x9 then
              mP ()
            else
              mB (mGt this 48) fun x11 =>
              mB (mGt this 46) fun x12 =>
              mB (jf_Model_byteAt this x12) fun x13 =>
              mB (mPt this 48 (((10 * x11) + x13) - 48)) fun _ =>
              mP ()) fun s10 =>
          mB (mGt this 46) fun x14 =>
          mB (mPt this 46 (x14 + 1)) fun _ =>
          mP (Sum.inl ())) ()) fun s4 =>
    mB (mGt this 48) fun x15 =>
    mB (jf_Model_in (Int32.toInt64 x15) (Int32.toInt64 p1) (Int32.toInt64 p2)) fun x16 =>
    if ¬ x16 = 0 then
      mP 1
    else
      mB (mGt this 49) fun x17 =>
      mB (jf_Model_fails this 2 x17) fun x18 =>
      if x18 = 0 then
        mP 0
      else
        mP 1
  else
    mB (mGt this 46) fun x19 =>
    mB (jf_Model_fails this 1 x19) fun x20 =>
    mB (mZ x20) fun x21 => mP x21
set_option maxRecDepth 20000 in
set_option maxHeartbeats 4000000 in
theorem jb_Model_readsNumber {X : qm_X} (hX : qm_ok X qr_Model prog_11_method_85_code 3 2 41 jl_Model_readsNumber) {r0 : Int32} {σ0 : qm_Mem} (hR : qm_RI X r0 σ0 .boolean) (this : Nat) (p1 : Int32) (p2 : Int32) (hthis : (qm_kd this).1 = 19) : qm_B X (jf_Model_readsNumber this p1 p2) 0 [some (.ref (qx_ad X this)), some (.int p1), some (.int p2)] [] (fun r σ1 => r = r0 ∧ σ1 = σ0) := by
  unfold jf_Model_readsNumber
  refine qb_aload_n hX 0 rfl rfl ?_
  refine qb_callI hX 1 rfl cv_Model_364 (jm_Model_nextByte (qk_GI hX) this  hthis ) (ci := 9) hthis ⟨rfl, rfl, rfl, by decide, by decide⟩ rfl (by exact Nat.le_of_ble_eq_true rfl) (fun x1 => ?_)
  refine qb_i2l hX 2 rfl ?_
  refine qb_ldc2w hX 3 48 rfl kl_Model_380 ?_
  refine qb_ldc2w hX 4 57 rfl kl_Model_382 ?_
  refine qb_calSI hX 5 rfl cv_Model_129 (jm_Model_in (qk_GI hX) (Int32.toInt64 x1) (48 : Int64) (57 : Int64) ) ⟨rfl, by decide, by decide⟩ rfl (by exact Nat.le_of_ble_eq_true rfl) (fun x2 => ?_)
  refine qb_ifne hX 6 27 rfl (by decide) ?_ ?_
  ·
    refine qb_aload_n hX 13 rfl rfl ?_
    refine qb_aload_n hX 14 rfl rfl ?_
    refine qb_get hX 15 rfl fl_Model_355 hthis rfl (fun x3 => ?_)
    refine qb_put hX 16 rfl fp_Model_387 hthis ?_
    refine qb_aload_n hX 17 rfl rfl ?_
    refine qb_iconst hX 18 0 rfl (by decide) ?_
    refine qb_put hX 19 rfl fp_Model_390 hthis ?_
    refine qb_join 107 (fun s4 => [some (.ref (qx_ad X this)), some (.int p1), some (.int p2)]) (fun s4 => []) ?_ ?_
    ·
      refine qb_loopw (()) (fun s5 => [some (.ref (qx_ad X this)), some (.int p1), some (.int p2)]) (qw_s (qw_s (qw_s (qw_0)))) (fun s5 => ?_)
      refine qb_aload_n hX 20 rfl rfl ?_
      refine qb_aload_n hX 21 rfl rfl ?_
      refine qb_get hX 22 rfl fl_Model_355 hthis rfl (fun x6 => ?_)
      refine qb_callI hX 23 rfl cv_Model_358 (jm_Model_byteAt (qk_GI hX) this x6 hthis ) (ci := 9) hthis ⟨rfl, rfl, rfl, by decide, by decide⟩ rfl (by exact Nat.le_of_ble_eq_true rfl) (fun x7 => ?_)
      refine qb_i2l hX 24 rfl ?_
      refine qb_ldc2w hX 25 48 rfl kl_Model_380 ?_
      refine qb_ldc2w hX 26 57 rfl kl_Model_382 ?_
      refine qb_calSI hX 27 rfl cv_Model_129 (jm_Model_in (qk_GI hX) (Int32.toInt64 x7) (48 : Int64) (57 : Int64) ) ⟨rfl, by decide, by decide⟩ rfl (by exact Nat.le_of_ble_eq_true rfl) (fun x8 => ?_)
      refine qb_ifeq hX 28 107 rfl (by decide) ?_ ?_
      ·
        exact qb_exit (fun σ h => qj_wk (ρ' := [some (.ref (qx_ad X this)), some (.int p1), some (.int p2)]) (qw_s (qw_s (qw_s (qw_0)))) h)
      ·
        refine qb_aload_n hX 29 rfl rfl ?_
        refine qb_get hX 30 rfl fl_Model_390 hthis rfl (fun x9 => ?_)
        refine qb_sipush hX 31 10000 rfl (by decide) ?_
        refine qb_join 94 (fun s10 => [some (.ref (qx_ad X this)), some (.int p1), some (.int p2)]) (fun s10 => []) ?_ ?_
        ·
          refine qb_icge hX 32 94 rfl (by decide) ?_ ?_
          ·
            exact qb_exit (fun σ h => qj_wk (ρ' := [some (.ref (qx_ad X this)), some (.int p1), some (.int p2)]) (qw_s (qw_s (qw_s (qw_0)))) h)
          ·
            refine qb_aload_n hX 33 rfl rfl ?_
            refine qb_bipush hX 34 10 rfl (by decide) ?_
            refine qb_aload_n hX 35 rfl rfl ?_
            refine qb_get hX 36 rfl fl_Model_390 hthis rfl (fun x11 => ?_)
            refine qb_imul hX 37 rfl ?_
            refine qb_aload_n hX 38 rfl rfl ?_
            refine qb_aload_n hX 39 rfl rfl ?_
            refine qb_get hX 40 rfl fl_Model_355 hthis rfl (fun x12 => ?_)
            refine qb_callI hX 41 rfl cv_Model_358 (jm_Model_byteAt (qk_GI hX) this x12 hthis ) (ci := 9) hthis ⟨rfl, rfl, rfl, by decide, by decide⟩ rfl (by exact Nat.le_of_ble_eq_true rfl) (fun x13 => ?_)
            refine qb_iadd hX 42 rfl ?_
            refine qb_bipush hX 43 48 rfl (by decide) ?_
            refine qb_isub hX 44 rfl ?_
            refine qb_put hX 45 rfl fp_Model_390 hthis ?_
            exact qb_exit (fun σ h => qj_wk (ρ' := [some (.ref (qx_ad X this)), some (.int p1), some (.int p2)]) (qw_s (qw_s (qw_s (qw_0)))) h)
        · intro s10
          refine qb_aload_n hX 46 rfl rfl ?_
          refine qb_dup hX 47 rfl rfl ?_
          refine qb_get hX 48 rfl fl_Model_355 hthis rfl (fun x14 => ?_)
          refine qb_iconst hX 49 1 rfl (by decide) ?_
          refine qb_iadd hX 50 rfl ?_
          refine qb_put hX 51 rfl fp_Model_355 hthis ?_
          exact qb_exit (fun σ h => qj_goto hX 52 rfl (by decide) (qj_wk (ρ' := [some (.ref (qx_ad X this)), some (.int p1), some (.int p2)]) (qw_s (qw_s (qw_s (qw_0)))) h))
    · intro s4
      refine qb_aload_n hX 53 rfl rfl ?_
      refine qb_get hX 54 rfl fl_Model_390 hthis rfl (fun x15 => ?_)
      refine qb_i2l hX 55 rfl ?_
      refine qb_iload_n hX 56 rfl rfl ?_
      refine qb_i2l hX 57 rfl ?_
      refine qb_iload_n hX 58 rfl rfl ?_
      refine qb_i2l hX 59 rfl ?_
      refine qb_calSI hX 60 rfl cv_Model_129 (jm_Model_in (qk_GI hX) (Int32.toInt64 x15) (Int32.toInt64 p1) (Int32.toInt64 p2) ) ⟨rfl, by decide, by decide⟩ rfl (by exact Nat.le_of_ble_eq_true rfl) (fun x16 => ?_)
      refine qb_ifne hX 61 134 rfl (by decide) ?_ ?_
      ·
        refine qb_iconst hX 68 1 rfl (by decide) ?_
        refine qb_goto hX 69 (tgt := 139) rfl (by decide) ?_
        exact qb_zret1 hX 71 rfl hR (by decide) (fun _ h => h)
      ·
        refine qb_aload_n hX 62 rfl rfl ?_
        refine qb_iconst hX 63 2 rfl (by decide) ?_
        refine qb_aload_n hX 64 rfl rfl ?_
        refine qb_get hX 65 rfl fl_Model_387 hthis rfl (fun x17 => ?_)
        refine qb_callI hX 66 rfl cv_Model_384 (jm_Model_fails (qk_GI hX) this 2 x17 hthis ) (ci := 9) hthis ⟨rfl, rfl, rfl, by decide, by decide⟩ rfl (by exact Nat.le_of_ble_eq_true rfl) (fun x18 => ?_)
        refine qb_ifeq hX 67 138 rfl (by decide) ?_ ?_
        ·
          refine qb_iconst hX 70 0 rfl (by decide) ?_
          exact qb_zret1 hX 71 rfl hR (by decide) (fun _ h => h)
        ·
          refine qb_iconst hX 68 1 rfl (by decide) ?_
          refine qb_goto hX 69 (tgt := 139) rfl (by decide) ?_
          exact qb_zret1 hX 71 rfl hR (by decide) (fun _ h => h)
  ·
    refine qb_aload_n hX 7 rfl rfl ?_
    refine qb_iconst hX 8 1 rfl (by decide) ?_
    refine qb_aload_n hX 9 rfl rfl ?_
    refine qb_get hX 10 rfl fl_Model_355 hthis rfl (fun x19 => ?_)
    refine qb_callI hX 11 rfl cv_Model_384 (jm_Model_fails (qk_GI hX) this 1 x19 hthis ) (ci := 9) hthis ⟨rfl, rfl, rfl, by decide, by decide⟩ rfl (by exact Nat.le_of_ble_eq_true rfl) (fun x20 => ?_)
    exact qb_zret hX 12 (a := fun x21 => x21) rfl hR (fun _ h => h)
theorem jm_Model_readsNumber {l : Launch} {G : qm_G} (hG : qm_GI G) (this : Nat) (p1 : Int32) (p2 : Int32) (hthis : (qm_kd this).1 = 19) : qm_MI l G jy_Model_readsNumber prog_11_method_85_code 3 (some .boolean) 2 41 [.ref (G.1 this), .int p1, .int p2] (jf_Model_readsNumber this p1 p2) :=
  qm_metI (by decide +kernel) jd_Model_readsNumber (fun v hv => by simp only [List.mem_cons, List.not_mem_nil, or_false] at hv; rcases hv with rfl | rfl | rfl <;> rfl) (by exact Nat.le_of_ble_eq_true rfl) hG rfl (fun X hl hg hX r0 σ0 hR => by subst hl; subst hg; exact jb_Model_readsNumber hX hR this p1 p2 hthis)
