def jl_Model_back : List qm_I := [(0, .iload_n 1, 1, 1), (1, .i2l, 1, 2), (2, .lconst 0, 1, 3), (3, .lconst 1, 1, 4), (4, .invokestatic 129, 3, 7), (7, .ifCond .ne 5, 3, 10), (10, .iconst (-1), 1, 11), (11, .ireturn, 1, 12), (12, .aload_n 0, 1, 13), (13, .getfield 19, 3, 16), (16, .iload_n 1, 1, 17), (17, .baload, 1, 18), (18, .ifCond .ne 6, 3, 21), (21, .bipush (-2), 2, 23), (23, .ireturn, 1, 24), (24, .iconst 0, 1, 25), (25, .istore_n 2, 1, 26), (26, .iload_n 2, 1, 27), (27, .sipush 265, 3, 30), (30, .if_icmp .ge 27, 3, 33), (33, .aload_n 0, 1, 34), (34, .getfield 7, 3, 37), (37, .iload_n 2, 1, 38), (38, .aload_n 0, 1, 39), (39, .getfield 16, 3, 42), (42, .sipush 265, 3, 45), (45, .iload_n 1, 1, 46), (46, .imul, 1, 47), (47, .iload_n 2, 1, 48), (48, .iadd, 1, 49), (49, .iaload, 1, 50), (50, .iastore, 1, 51), (51, .iinc 2 1, 3, 54), (54, .goto (-28), 3, 57), (57, .aload_n 0, 1, 58), (58, .iconst 0, 1, 59), (59, .putfield 487, 3, 62), (62, .aload_n 0, 1, 63), (63, .invokevirtual 140, 3, 66), (66, .ireturn, 1, 67)]
theorem jd_Model_back : qm_D prog_11_method_112_code jl_Model_back := qm_D_of (by decide +kernel)
noncomputable def jf_Model_back (this : Nat) (p1 : Int32) : qm_M Int32 :=
  mB (jf_Model_in (Int32.toInt64 p1) (0 : Int64) (1 : Int64)) fun x1 =>
  if ¬ x1 = 0 then
    mB (mLd (qm_rf this 4) p1) fun x2 =>
    if ¬ x2 = 0 then
      mB (α := Unit) (
        mW (S := Int32) (α := Unit) (fun s4 =>
          if 265 ≤ s4 then
            mP (Sum.inr ())
          else
            mB (mLd (qm_rf this 3) ((265 * p1) + s4)) fun x5 =>
            mB (mSt (qm_rf this 0) s4 x5) fun _ =>
            mB (mP (s4 + 1)) fun x6 =>
            mP (Sum.inl x6)) 0) fun s3 =>
      mB (mPt this 2 0) fun _ =>
      mB (jf_Model_blocks this) fun x7 =>
      mP x7
    else
      mP (-2)
  else
    mP (-1)
set_option maxRecDepth 20000 in
set_option maxHeartbeats 4000000 in
theorem jb_Model_back {X : qm_X} (hX : qm_ok X qr_Model prog_11_method_112_code 3 1 25 jl_Model_back) {r0 : Int32} {σ0 : qm_Mem} (hR : qm_RI X r0 σ0 .int) (this : Nat) (p1 : Int32) (hthis : (qm_kd this).1 = 19) : qm_B X (jf_Model_back this p1) 0 [some (.ref (qx_ad X this)), some (.int p1), none] [] (fun r σ1 => r = r0 ∧ σ1 = σ0) := by
  unfold jf_Model_back
  refine qb_iload_n hX 0 rfl rfl ?_
  refine qb_i2l hX 1 rfl ?_
  refine qb_lconst hX 2 0 rfl (by decide) ?_
  refine qb_lconst hX 3 1 rfl (by decide) ?_
  refine qb_calSI hX 4 rfl cv_Model_129 (jm_Model_in (qk_GI hX) (Int32.toInt64 p1) (0 : Int64) (1 : Int64) ) ⟨rfl, by decide, by decide⟩ rfl (by exact Nat.le_of_ble_eq_true rfl) (fun x1 => ?_)
  refine qb_ifne hX 5 12 rfl (by decide) ?_ ?_
  ·
    refine qb_aload_n hX 8 rfl rfl ?_
    refine qb_getR hX 9 rfl fl_Model_19 hthis rfl ?_
    refine qb_iload_n hX 10 rfl rfl ?_
    refine qb_zald hX 11 rfl (kf_Model_4 hthis) (fun x2 => ?_)
    refine qb_ifne hX 12 24 rfl (by decide) ?_ ?_
    ·
      refine qb_iconst hX 15 0 rfl (by decide) ?_
      refine qb_istore_n hX 16 ([some (.ref (qx_ad X this)), some (.int p1), some (.int 0)]) rfl (by decide) rfl ?_
      refine qb_join 57 (fun s3 => [some (.ref (qx_ad X this)), none, none]) (fun s3 => []) ?_ ?_
      ·
        refine qb_loopw (0) (fun s4 => [some (.ref (qx_ad X this)), some (.int p1), some (.int s4)]) (qw_s (qw_s (qw_s (qw_0)))) (fun s4 => ?_)
        refine qb_iload_n hX 17 rfl rfl ?_
        refine qb_sipush hX 18 265 rfl (by decide) ?_
        refine qb_icge hX 19 57 rfl (by decide) ?_ ?_
        ·
          exact qb_exit (fun σ h => qj_wk (ρ' := [some (.ref (qx_ad X this)), none, none]) (qw_s (qw_n (qw_n (qw_0)))) h)
        ·
          refine qb_aload_n hX 20 rfl rfl ?_
          refine qb_getR hX 21 rfl fl_Model_7 hthis rfl ?_
          refine qb_iload_n hX 22 rfl rfl ?_
          refine qb_aload_n hX 23 rfl rfl ?_
          refine qb_getR hX 24 rfl fl_Model_16 hthis rfl ?_
          refine qb_sipush hX 25 265 rfl (by decide) ?_
          refine qb_iload_n hX 26 rfl rfl ?_
          refine qb_imul hX 27 rfl ?_
          refine qb_iload_n hX 28 rfl rfl ?_
          refine qb_iadd hX 29 rfl ?_
          refine qb_iald hX 30 rfl (kf_Model_3 hthis) (fun x5 => ?_)
          refine qb_iast hX 31 rfl (kf_Model_0 hthis) ?_
          refine qb_iinc hX 32 1 (fun x6 => [some (.ref (qx_ad X this)), some (.int p1), some (.int x6)]) rfl (by decide) (by decide) rfl (fun _ => rfl) (fun x6 => ?_)
          exact qb_exit (fun σ h => qj_goto hX 33 rfl (by decide) (qj_wk (ρ' := [some (.ref (qx_ad X this)), some (.int p1), some (.int x6)]) (qw_s (qw_s (qw_s (qw_0)))) h))
      · intro s3
        refine qb_aload_n hX 34 rfl rfl ?_
        refine qb_iconst hX 35 0 rfl (by decide) ?_
        refine qb_put hX 36 rfl fp_Model_487 hthis ?_
        refine qb_aload_n hX 37 rfl rfl ?_
        refine qb_callI hX 38 rfl cv_Model_140 (jm_Model_blocks (qk_GI hX) this  hthis ) (ci := 9) hthis ⟨rfl, rfl, rfl, by decide, by decide⟩ rfl (by exact Nat.le_of_ble_eq_true rfl) (fun x7 => ?_)
        exact qb_iret hX 39 rfl hR (fun _ h => h)
    ·
      refine qb_bipush hX 13 (-2) rfl (by decide) ?_
      exact qb_iret hX 14 rfl hR (fun _ h => h)
  ·
    refine qb_iconst hX 6 (-1) rfl (by decide) ?_
    exact qb_iret hX 7 rfl hR (fun _ h => h)
theorem jm_Model_back {l : Launch} {G : qm_G} (hG : qm_GI G) (this : Nat) (p1 : Int32) (hthis : (qm_kd this).1 = 19) : qm_MI l G jy_Model_back prog_11_method_112_code 3 (some .int) 1 25 [.ref (G.1 this), .int p1] (jf_Model_back this p1) :=
  qm_metI (by decide +kernel) jd_Model_back (fun v hv => by simp only [List.mem_cons, List.not_mem_nil, or_false] at hv; rcases hv with rfl | rfl <;> rfl) (by exact Nat.le_of_ble_eq_true rfl) hG rfl (fun X hl hg hX r0 σ0 hR => by subst hl; subst hg; exact jb_Model_back hX hR this p1 hthis)
def jl_Model_count : List qm_I := [(0, .aload_n 0, 1, 1), (1, .invokevirtual 245, 3, 4), (4, .iload_n 1, 1, 5), (5, .i2l, 1, 6), (6, .ldc2_w 498, 3, 9), (9, .ldc2_w 500, 3, 12), (12, .invokestatic 129, 3, 15), (15, .ifCond .eq 13, 3, 18), (18, .aload_n 0, 1, 19), (19, .getfield 7, 3, 22), (22, .iload_n 1, 1, 23), (23, .bipush 10, 2, 25), (25, .isub, 1, 26), (26, .iaload, 1, 27), (27, .ireturn, 1, 28), (28, .iload_n 1, 1, 29), (29, .tableswitch 125 0 7 #[47, 52, 57, 62, 67, 72, 77, 107], 47, 76), (76, .aload_n 0, 1, 77), (77, .invokevirtual 140, 3, 80), (80, .ireturn, 1, 81), (81, .aload_n 0, 1, 82), (82, .getfield 148, 3, 85), (85, .ireturn, 1, 86), (86, .aload_n 0, 1, 87), (87, .getfield 155, 3, 90), (90, .ireturn, 1, 91), (91, .aload_n 0, 1, 92), (92, .invokevirtual 268, 3, 95), (95, .ireturn, 1, 96), (96, .aload_n 0, 1, 97), (97, .getfield 487, 3, 100), (100, .ireturn, 1, 101), (101, .aload_n 0, 1, 102), (102, .getfield 352, 3, 105), (105, .ireturn, 1, 106), (106, .aload_n 0, 1, 107), (107, .getfield 19, 3, 110), (110, .iconst 0, 1, 111), (111, .baload, 1, 112), (112, .ifCond .eq 7, 3, 115), (115, .iconst 1, 1, 116), (116, .goto 4, 3, 119), (119, .iconst 0, 1, 120), (120, .aload_n 0, 1, 121), (121, .getfield 19, 3, 124), (124, .iconst 1, 1, 125), (125, .baload, 1, 126), (126, .ifCond .eq 7, 3, 129), (129, .iconst 2, 1, 130), (130, .goto 4, 3, 133), (133, .iconst 0, 1, 134), (134, .iadd, 1, 135), (135, .ireturn, 1, 136), (136, .aload_n 0, 1, 137), (137, .getfield 155, 3, 140), (140, .ifCond .ne 7, 3, 143), (143, .iconst 0, 1, 144), (144, .goto 9, 3, 147), (147, .aload_n 0, 1, 148), (148, .getfield 155, 3, 151), (151, .iconst 1, 1, 152), (152, .isub, 1, 153), (153, .ireturn, 1, 154), (154, .iconst (-1), 1, 155), (155, .ireturn, 1, 156)]
theorem jd_Model_count : qm_D prog_11_method_113_code jl_Model_count := qm_D_of (by decide +kernel)
noncomputable def jf_Model_count (this : Nat) (p1 : Int32) : qm_M Int32 :=
  mB (jf_Model_lays this) fun _ =>
  mB (jf_Model_in (Int32.toInt64 p1) (10 : Int64) (17 : Int64)) fun x1 =>
  if x1 = 0 then
    if p1 = 0 then
      mB (jf_Model_blocks this) fun x2 =>
      mP x2
    else
    if p1 = 1 then
      mB (mGt this 13) fun x3 =>
      mP x3
    else
    if p1 = 2 then
      mB (mGt this 16) fun x4 =>
      mP x4
    else
    if p1 = 3 then
      mB (jf_Model_notes this) fun x5 =>
      mP x5
    else
    if p1 = 4 then
      mB (mGt this 2) fun x6 =>
      mP x6
    else
    if p1 = 5 then
      mB (mGt this 45) fun x7 =>
      mP x7
    else
    if p1 = 6 then
      mB (mLd (qm_rf this 4) 0) fun x8 =>
      mB (α := Int32) (
        if x8 = 0 then
          mP 0
        else
          mP 1) fun s9 =>
      mB (mLd (qm_rf this 4) 1) fun x10 =>
      if x10 = 0 then
        mP (s9 + 0)
      else
        mP (s9 + 2)
    else
    if p1 = 7 then
      mB (mGt this 16) fun x11 =>
      if ¬ x11 = 0 then
        mB (mGt this 16) fun x12 =>
        mP (x12 - 1)
      else
        mP 0
    else
    mP (-1)
  else
    mB (mLd (qm_rf this 0) (p1 - 10)) fun x13 =>
    mP x13
set_option maxRecDepth 20000 in
set_option maxHeartbeats 4000000 in
theorem jb_Model_count {X : qm_X} (hX : qm_ok X qr_Model prog_11_method_113_code 2 4 90 jl_Model_count) {r0 : Int32} {σ0 : qm_Mem} (hR : qm_RI X r0 σ0 .int) (this : Nat) (p1 : Int32) (hthis : (qm_kd this).1 = 19) : qm_B X (jf_Model_count this p1) 0 [some (.ref (qx_ad X this)), some (.int p1)] [] (fun r σ1 => r = r0 ∧ σ1 = σ0) := by
  unfold jf_Model_count
  refine qb_aload_n hX 0 rfl rfl ?_
  refine qb_callV hX 1 rfl cv_Model_245 (jm_Model_lays (qk_GI hX) this  hthis ) (ci := 9) hthis ⟨rfl, rfl, rfl, by decide, by decide⟩ rfl (by exact Nat.le_of_ble_eq_true rfl) ?_
  refine qb_iload_n hX 2 rfl rfl ?_
  refine qb_i2l hX 3 rfl ?_
  refine qb_ldc2w hX 4 10 rfl kl_Model_498 ?_
  refine qb_ldc2w hX 5 17 rfl kl_Model_500 ?_
  refine qb_calSI hX 6 rfl cv_Model_129 (jm_Model_in (qk_GI hX) (Int32.toInt64 p1) (10 : Int64) (17 : Int64) ) ⟨rfl, by decide, by decide⟩ rfl (by exact Nat.le_of_ble_eq_true rfl) (fun x1 => ?_)
  refine qb_ifeq hX 7 28 rfl (by decide) ?_ ?_
  ·
    refine qb_iload_n hX 15 rfl rfl ?_
    refine qb_swc 0 ?_ (fun h0 => ?_)
    ·
      refine qb_tin hX 16 76 rfl (by decide) (by decide) rfl (by decide) ?_
      refine qb_aload_n hX 17 rfl rfl ?_
      refine qb_callI hX 18 rfl cv_Model_140 (jm_Model_blocks (qk_GI hX) this  hthis ) (ci := 9) hthis ⟨rfl, rfl, rfl, by decide, by decide⟩ rfl (by exact Nat.le_of_ble_eq_true rfl) (fun x2 => ?_)
      exact qb_iret hX 19 rfl hR (fun _ h => h)
    refine qb_swc 1 ?_ (fun h1 => ?_)
    ·
      refine qb_tin hX 16 81 rfl (by decide) (by decide) rfl (by decide) ?_
      refine qb_aload_n hX 20 rfl rfl ?_
      refine qb_get hX 21 rfl fl_Model_148 hthis rfl (fun x3 => ?_)
      exact qb_iret hX 22 rfl hR (fun _ h => h)
    refine qb_swc 2 ?_ (fun h2 => ?_)
    ·
      refine qb_tin hX 16 86 rfl (by decide) (by decide) rfl (by decide) ?_
      refine qb_aload_n hX 23 rfl rfl ?_
      refine qb_get hX 24 rfl fl_Model_155 hthis rfl (fun x4 => ?_)
      exact qb_iret hX 25 rfl hR (fun _ h => h)
    refine qb_swc 3 ?_ (fun h3 => ?_)
    ·
      refine qb_tin hX 16 91 rfl (by decide) (by decide) rfl (by decide) ?_
      refine qb_aload_n hX 26 rfl rfl ?_
      refine qb_callI hX 27 rfl cv_Model_268 (jm_Model_notes (qk_GI hX) this  hthis ) (ci := 9) hthis ⟨rfl, rfl, rfl, by decide, by decide⟩ rfl (by exact Nat.le_of_ble_eq_true rfl) (fun x5 => ?_)
      exact qb_iret hX 28 rfl hR (fun _ h => h)
    refine qb_swc 4 ?_ (fun h4 => ?_)
    ·
      refine qb_tin hX 16 96 rfl (by decide) (by decide) rfl (by decide) ?_
      refine qb_aload_n hX 29 rfl rfl ?_
      refine qb_get hX 30 rfl fl_Model_487 hthis rfl (fun x6 => ?_)
      exact qb_iret hX 31 rfl hR (fun _ h => h)
    refine qb_swc 5 ?_ (fun h5 => ?_)
    ·
      refine qb_tin hX 16 101 rfl (by decide) (by decide) rfl (by decide) ?_
      refine qb_aload_n hX 32 rfl rfl ?_
      refine qb_get hX 33 rfl fl_Model_352 hthis rfl (fun x7 => ?_)
      exact qb_iret hX 34 rfl hR (fun _ h => h)
    refine qb_swc 6 ?_ (fun h6 => ?_)
    ·
      refine qb_tin hX 16 106 rfl (by decide) (by decide) rfl (by decide) ?_
      refine qb_aload_n hX 35 rfl rfl ?_
      refine qb_getR hX 36 rfl fl_Model_19 hthis rfl ?_
      refine qb_iconst hX 37 0 rfl (by decide) ?_
      refine qb_zald hX 38 rfl (kf_Model_4 hthis) (fun x8 => ?_)
      refine qb_join 120 (fun s9 => [some (.ref (qx_ad X this)), none]) (fun s9 => [.int s9]) ?_ ?_
      ·
        refine qb_ifeq hX 39 119 rfl (by decide) ?_ ?_
        ·
          refine qb_iconst hX 42 0 rfl (by decide) ?_
          exact qb_exit (fun σ h => qj_wk (ρ' := [some (.ref (qx_ad X this)), none]) (qw_s (qw_n (qw_0))) h)
        ·
          refine qb_iconst hX 40 1 rfl (by decide) ?_
          exact qb_exit (fun σ h => qj_goto hX 41 rfl (by decide) (qj_wk (ρ' := [some (.ref (qx_ad X this)), none]) (qw_s (qw_n (qw_0))) h))
      · intro s9
        refine qb_aload_n hX 43 rfl rfl ?_
        refine qb_getR hX 44 rfl fl_Model_19 hthis rfl ?_
        refine qb_iconst hX 45 1 rfl (by decide) ?_
        refine qb_zald hX 46 rfl (kf_Model_4 hthis) (fun x10 => ?_)
        refine qb_ifeq hX 47 133 rfl (by decide) ?_ ?_
        ·
          refine qb_iconst hX 50 0 rfl (by decide) ?_
          refine qb_iadd hX 51 rfl ?_
          exact qb_iret hX 52 rfl hR (fun _ h => h)
        ·
          refine qb_iconst hX 48 2 rfl (by decide) ?_
          refine qb_goto hX 49 (tgt := 134) rfl (by decide) ?_
          refine qb_iadd hX 51 rfl ?_
          exact qb_iret hX 52 rfl hR (fun _ h => h)
    refine qb_swc 7 ?_ (fun h7 => ?_)
    ·
      refine qb_tin hX 16 136 rfl (by decide) (by decide) rfl (by decide) ?_
      refine qb_aload_n hX 53 rfl rfl ?_
      refine qb_get hX 54 rfl fl_Model_155 hthis rfl (fun x11 => ?_)
      refine qb_ifne hX 55 147 rfl (by decide) ?_ ?_
      ·
        refine qb_aload_n hX 58 rfl rfl ?_
        refine qb_get hX 59 rfl fl_Model_155 hthis rfl (fun x12 => ?_)
        refine qb_iconst hX 60 1 rfl (by decide) ?_
        refine qb_isub hX 61 rfl ?_
        exact qb_iret hX 62 rfl hR (fun _ h => h)
      ·
        refine qb_iconst hX 56 0 rfl (by decide) ?_
        refine qb_goto hX 57 (tgt := 153) rfl (by decide) ?_
        exact qb_iret hX 62 rfl hR (fun _ h => h)
    refine qb_tout hX 16 154 rfl (by have g0 := lv_neT (a := 0) h0 (by decide); have g1 := lv_neT (a := 1) h1 (by decide); have g2 := lv_neT (a := 2) h2 (by decide); have g3 := lv_neT (a := 3) h3 (by decide); have g4 := lv_neT (a := 4) h4 (by decide); have g5 := lv_neT (a := 5) h5 (by decide); have g6 := lv_neT (a := 6) h6 (by decide); have g7 := lv_neT (a := 7) h7 (by decide); omega) (by decide) ?_
    refine qb_iconst hX 63 (-1) rfl (by decide) ?_
    exact qb_iret hX 64 rfl hR (fun _ h => h)
  ·
    refine qb_aload_n hX 8 rfl rfl ?_
    refine qb_getR hX 9 rfl fl_Model_7 hthis rfl ?_
    refine qb_iload_n hX 10 rfl rfl ?_
    refine qb_bipush hX 11 10 rfl (by decide) ?_
    refine qb_isub hX 12 rfl ?_
    refine qb_iald hX 13 rfl (kf_Model_0 hthis) (fun x13 => ?_)
    exact qb_iret hX 14 rfl hR (fun _ h => h)
theorem jm_Model_count {l : Launch} {G : qm_G} (hG : qm_GI G) (this : Nat) (p1 : Int32) (hthis : (qm_kd this).1 = 19) : qm_MI l G jy_Model_count prog_11_method_113_code 2 (some .int) 4 90 [.ref (G.1 this), .int p1] (jf_Model_count this p1) :=
  qm_metI (by decide +kernel) jd_Model_count (fun v hv => by simp only [List.mem_cons, List.not_mem_nil, or_false] at hv; rcases hv with rfl | rfl <;> rfl) (by exact Nat.le_of_ble_eq_true rfl) hG rfl (fun X hl hg hX r0 σ0 hR => by subst hl; subst hg; exact jb_Model_count hX hR this p1 hthis)
