def jl_Top_keep : List qm_I := [(0, .iload_n 1, 1, 1), (1, .ifCond .lt 12, 3, 4), (4, .iload_n 1, 1, 5), (5, .aload_n 0, 1, 6), (6, .getfield 39, 3, 9), (9, .arraylength, 1, 10), (10, .if_icmp .lt 5, 3, 13), (13, .iconst (-1), 1, 14), (14, .ireturn, 1, 15), (15, .aload_n 0, 1, 16), (16, .getfield 39, 3, 19), (19, .iload_n 1, 1, 20), (20, .aaload, 1, 21), (21, .aload_n 0, 1, 22), (22, .getfield 12, 3, 25), (25, .invokevirtual 79, 3, 28), (28, .aload_n 0, 1, 29), (29, .dup, 1, 30), (30, .getfield 137, 3, 33), (33, .iconst 1, 1, 34), (34, .iload_n 1, 1, 35), (35, .ishl, 1, 36), (36, .ior, 1, 37), (37, .putfield 137, 3, 40), (40, .aload_n 0, 1, 41), (41, .getfield 12, 3, 44), (44, .getfield 122, 3, 47), (47, .ireturn, 1, 48)]
theorem jd_Top_keep : qm_D prog_1_method_12_code jl_Top_keep := qm_D_of (by decide +kernel)
noncomputable def jf_Top_keep (this : Nat) (p1 : Int32) : qm_M Int32 :=
  if p1 < 0 then
    mP (-1)
  else
    if p1 < (Int32.ofNat (qm_kd (qm_rf this 4)).2) then
      mB (mLr (qm_rf this 4) p1) fun r1 =>
      mB (jf_Run_copyFrom r1 (qm_rf this 0)) fun _ =>
      mB (mGt this 5) fun x2 =>
      mB (mPt this 5 (x2 ||| (1 <<< (p1 &&& 31)))) fun _ =>
      mB (mGt (qm_rf this 0) 0) fun x3 =>
      mP x3
    else
      mP (-1)
set_option maxRecDepth 20000 in
set_option maxHeartbeats 4000000 in
theorem jb_Top_keep {X : qm_X} (hX : qm_ok X qr_Top prog_1_method_12_code 2 1 22 jl_Top_keep) {r0 : Int32} {σ0 : qm_Mem} (hR : qm_RI X r0 σ0 .int) (this : Nat) (p1 : Int32) (hthis : (qm_kd this).1 = 18) : qm_B X (jf_Top_keep this p1) 0 [some (.ref (qx_ad X this)), some (.int p1)] [] (fun r σ1 => r = r0 ∧ σ1 = σ0) := by
  unfold jf_Top_keep
  refine qb_iload_n hX 0 rfl rfl ?_
  refine qb_iflt hX 1 13 rfl (by decide) ?_ ?_
  ·
    refine qb_iconst hX 7 (-1) rfl (by decide) ?_
    exact qb_iret hX 8 rfl hR (fun _ h => h)
  ·
    refine qb_iload_n hX 2 rfl rfl ?_
    refine qb_aload_n hX 3 rfl rfl ?_
    refine qb_getR hX 4 rfl fl_Top_39 hthis rfl ?_
    refine qb_alenR hX 5 (Int32.ofNat (qm_kd (qm_rf this 4)).2) rfl (Or.inr (kf_Top_4 hthis)) rfl ?_
    refine qb_iclt hX 6 15 rfl (by decide) ?_ ?_
    ·
      refine qb_aload_n hX 9 rfl rfl ?_
      refine qb_getR hX 10 rfl fl_Top_39 hthis rfl ?_
      refine qb_iload_n hX 11 rfl rfl ?_
      refine qb_aald hX 12 rfl (Or.inr (kf_Top_4 hthis)) (ka_5 (kf_Top_4 hthis)) (fun r1 hr1 => ?_)
      refine qb_aload_n hX 13 rfl rfl ?_
      refine qb_getR hX 14 rfl fl_Top_12 hthis rfl ?_
      refine qb_callV hX 15 rfl cv_Top_79 (jm_Run_copyFrom (qk_GI hX) r1 (qm_rf this 0) hr1 (kf_Top_0 hthis)) (ci := 4) hr1 ⟨rfl, rfl, rfl, by decide, by decide⟩ rfl (by exact Nat.le_of_ble_eq_true rfl) ?_
      refine qb_aload_n hX 16 rfl rfl ?_
      refine qb_dup hX 17 rfl rfl ?_
      refine qb_get hX 18 rfl fl_Top_137 hthis rfl (fun x2 => ?_)
      refine qb_iconst hX 19 1 rfl (by decide) ?_
      refine qb_iload_n hX 20 rfl rfl ?_
      refine qb_ishl hX 21 rfl ?_
      refine qb_ior hX 22 rfl ?_
      refine qb_put hX 23 rfl fp_Top_137 hthis ?_
      refine qb_aload_n hX 24 rfl rfl ?_
      refine qb_getR hX 25 rfl fl_Top_12 hthis rfl ?_
      refine qb_get hX 26 rfl fl_Top_122 (kf_Top_0 hthis) rfl (fun x3 => ?_)
      exact qb_iret hX 27 rfl hR (fun _ h => h)
    ·
      refine qb_iconst hX 7 (-1) rfl (by decide) ?_
      exact qb_iret hX 8 rfl hR (fun _ h => h)
theorem jm_Top_keep {l : Launch} {G : qm_G} (hG : qm_GI G) (this : Nat) (p1 : Int32) (hthis : (qm_kd this).1 = 18) : qm_MI l G jy_Top_keep prog_1_method_12_code 2 (some .int) 1 22 [.ref (G.1 this), .int p1] (jf_Top_keep this p1) :=
  qm_metI (by decide +kernel) jd_Top_keep (fun v hv => by simp only [List.mem_cons, List.not_mem_nil, or_false] at hv; rcases hv with rfl | rfl <;> rfl) (by exact Nat.le_of_ble_eq_true rfl) hG rfl (fun X hl hg hX r0 σ0 hR => by subst hl; subst hg; exact jb_Top_keep hX hR this p1 hthis)
def jl_Top_back : List qm_I := [(0, .iload_n 1, 1, 1), (1, .ifCond .lt 12, 3, 4), (4, .iload_n 1, 1, 5), (5, .aload_n 0, 1, 6), (6, .getfield 39, 3, 9), (9, .arraylength, 1, 10), (10, .if_icmp .lt 5, 3, 13), (13, .iconst (-1), 1, 14), (14, .ireturn, 1, 15), (15, .aload_n 0, 1, 16), (16, .getfield 137, 3, 19), (19, .iload_n 1, 1, 20), (20, .ishr, 1, 21), (21, .iconst 1, 1, 22), (22, .iand, 1, 23), (23, .ifCond .ne 6, 3, 26), (26, .bipush (-2), 2, 28), (28, .ireturn, 1, 29), (29, .aload_n 0, 1, 30), (30, .getfield 12, 3, 33), (33, .aload_n 0, 1, 34), (34, .getfield 39, 3, 37), (37, .iload_n 1, 1, 38), (38, .aaload, 1, 39), (39, .invokevirtual 79, 3, 42), (42, .aload_n 0, 1, 43), (43, .getfield 35, 3, 46), (46, .iconst 0, 1, 47), (47, .putfield 83, 3, 50), (50, .aload_n 0, 1, 51), (51, .invokevirtual 86, 3, 54), (54, .aload_n 0, 1, 55), (55, .getfield 12, 3, 58), (58, .getfield 122, 3, 61), (61, .ireturn, 1, 62)]
theorem jd_Top_back : qm_D prog_1_method_13_code jl_Top_back := qm_D_of (by decide +kernel)
noncomputable def jf_Top_back (this : Nat) (p1 : Int32) : qm_M Int32 :=
  if p1 < 0 then
    mP (-1)
  else
    if p1 < (Int32.ofNat (qm_kd (qm_rf this 4)).2) then
      mB (mGt this 5) fun x1 =>
      if ¬ ((x1 >>> (p1 &&& 31)) &&& 1) = 0 then
        mB (mLr (qm_rf this 4) p1) fun r2 =>
        mB (jf_Run_copyFrom (qm_rf this 0) r2) fun _ =>
        mB (mPt (qm_rf this 3) 2 0) fun _ =>
        mB (jf_Top_changed this) fun _ =>
        mB (mGt (qm_rf this 0) 0) fun x3 =>
        mP x3
      else
        mP (-2)
    else
      mP (-1)
set_option maxRecDepth 20000 in
set_option maxHeartbeats 4000000 in
theorem jb_Top_back {X : qm_X} (hX : qm_ok X qr_Top prog_1_method_13_code 2 1 22 jl_Top_back) {r0 : Int32} {σ0 : qm_Mem} (hR : qm_RI X r0 σ0 .int) (this : Nat) (p1 : Int32) (hthis : (qm_kd this).1 = 18) : qm_B X (jf_Top_back this p1) 0 [some (.ref (qx_ad X this)), some (.int p1)] [] (fun r σ1 => r = r0 ∧ σ1 = σ0) := by
  unfold jf_Top_back
  refine qb_iload_n hX 0 rfl rfl ?_
  refine qb_iflt hX 1 13 rfl (by decide) ?_ ?_
  ·
    refine qb_iconst hX 7 (-1) rfl (by decide) ?_
    exact qb_iret hX 8 rfl hR (fun _ h => h)
  ·
    refine qb_iload_n hX 2 rfl rfl ?_
    refine qb_aload_n hX 3 rfl rfl ?_
    refine qb_getR hX 4 rfl fl_Top_39 hthis rfl ?_
    refine qb_alenR hX 5 (Int32.ofNat (qm_kd (qm_rf this 4)).2) rfl (Or.inr (kf_Top_4 hthis)) rfl ?_
    refine qb_iclt hX 6 15 rfl (by decide) ?_ ?_
    ·
      refine qb_aload_n hX 9 rfl rfl ?_
      refine qb_get hX 10 rfl fl_Top_137 hthis rfl (fun x1 => ?_)
      refine qb_iload_n hX 11 rfl rfl ?_
      refine qb_ishr hX 12 rfl ?_
      refine qb_iconst hX 13 1 rfl (by decide) ?_
      refine qb_iand hX 14 rfl ?_
      refine qb_ifne hX 15 29 rfl (by decide) ?_ ?_
      ·
        refine qb_aload_n hX 18 rfl rfl ?_
        refine qb_getR hX 19 rfl fl_Top_12 hthis rfl ?_
        refine qb_aload_n hX 20 rfl rfl ?_
        refine qb_getR hX 21 rfl fl_Top_39 hthis rfl ?_
        refine qb_iload_n hX 22 rfl rfl ?_
        refine qb_aald hX 23 rfl (Or.inr (kf_Top_4 hthis)) (ka_5 (kf_Top_4 hthis)) (fun r2 hr2 => ?_)
        refine qb_callV hX 24 rfl cv_Top_79 (jm_Run_copyFrom (qk_GI hX) (qm_rf this 0) r2 (kf_Top_0 hthis) hr2) (ci := 4) (kf_Top_0 hthis) ⟨rfl, rfl, rfl, by decide, by decide⟩ rfl (by exact Nat.le_of_ble_eq_true rfl) ?_
        refine qb_aload_n hX 25 rfl rfl ?_
        refine qb_getR hX 26 rfl fl_Top_35 hthis rfl ?_
        refine qb_iconst hX 27 0 rfl (by decide) ?_
        refine qb_put hX 28 rfl fp_Top_83 (kf_Top_3 hthis) ?_
        refine qb_aload_n hX 29 rfl rfl ?_
        refine qb_callV hX 30 rfl cv_Top_86 (jm_Top_changed (qk_GI hX) this  hthis ) (ci := 8) hthis ⟨rfl, rfl, rfl, by decide, by decide⟩ rfl (by exact Nat.le_of_ble_eq_true rfl) ?_
        refine qb_aload_n hX 31 rfl rfl ?_
        refine qb_getR hX 32 rfl fl_Top_12 hthis rfl ?_
        refine qb_get hX 33 rfl fl_Top_122 (kf_Top_0 hthis) rfl (fun x3 => ?_)
        exact qb_iret hX 34 rfl hR (fun _ h => h)
      ·
        refine qb_bipush hX 16 (-2) rfl (by decide) ?_
        exact qb_iret hX 17 rfl hR (fun _ h => h)
    ·
      refine qb_iconst hX 7 (-1) rfl (by decide) ?_
      exact qb_iret hX 8 rfl hR (fun _ h => h)
theorem jm_Top_back {l : Launch} {G : qm_G} (hG : qm_GI G) (this : Nat) (p1 : Int32) (hthis : (qm_kd this).1 = 18) : qm_MI l G jy_Top_back prog_1_method_13_code 2 (some .int) 1 22 [.ref (G.1 this), .int p1] (jf_Top_back this p1) :=
  qm_metI (by decide +kernel) jd_Top_back (fun v hv => by simp only [List.mem_cons, List.not_mem_nil, or_false] at hv; rcases hv with rfl | rfl <;> rfl) (by exact Nat.le_of_ble_eq_true rfl) hG rfl (fun X hl hg hX r0 σ0 hR => by subst hl; subst hg; exact jb_Top_back hX hR this p1 hthis)
def jl_Top_laidOut : List qm_I := [(0, .aload_n 0, 1, 1), (1, .getfield 330, 3, 4), (4, .ifCond .ne 15, 3, 7), (7, .aload_n 0, 1, 8), (8, .getfield 48, 3, 11), (11, .invokevirtual 288, 3, 14), (14, .aload_n 0, 1, 15), (15, .iconst 1, 1, 16), (16, .putfield 330, 3, 19), (19, .aload_n 0, 1, 20), (20, .getfield 48, 3, 23), (23, .areturn, 1, 24)]
theorem jd_Top_laidOut : qm_D prog_1_method_39_code jl_Top_laidOut := qm_D_of (by decide +kernel)
noncomputable def jf_Top_laidOut (this : Nat) : qm_M Nat :=
  mB (mGt this 9) fun x1 =>
  if ¬ x1 = 0 then
    mP (qm_rf this 6)
  else
    mB (jf_Press_lay (qm_rf this 6)) fun _ =>
    mB (mPz this 9 1) fun _ =>
    mP (qm_rf this 6)
set_option maxRecDepth 20000 in
set_option maxHeartbeats 4000000 in
theorem jb_Top_laidOut {X : qm_X} (hX : qm_ok X qr_Top prog_1_method_39_code 1 5 114 jl_Top_laidOut) {r0 : Nat} {σ0 : qm_Mem} (hR : qm_RR X r0 σ0 (.object "ColumnsLevelled$Press")) (this : Nat) (hthis : (qm_kd this).1 = 18) : qm_B X (jf_Top_laidOut this) 0 [some (.ref (qx_ad X this))] [] (fun r σ1 => r = r0 ∧ σ1 = σ0) := by
  unfold jf_Top_laidOut
  refine qb_aload_n hX 0 rfl rfl ?_
  refine qb_get hX 1 rfl fl_Top_330 hthis rfl (fun x1 => ?_)
  refine qb_ifne hX 2 19 rfl (by decide) ?_ ?_
  ·
    refine qb_aload_n hX 9 rfl rfl ?_
    refine qb_getR hX 10 rfl fl_Top_48 hthis rfl ?_
    exact qb_aret hX 11 rfl hR (fun _ h => h)
  ·
    refine qb_aload_n hX 3 rfl rfl ?_
    refine qb_getR hX 4 rfl fl_Top_48 hthis rfl ?_
    refine qb_callV hX 5 rfl cv_Top_288 (jm_Press_lay (qk_GI hX) (qm_rf this 6)  (kf_Top_6 hthis) ) (ci := 3) (kf_Top_6 hthis) ⟨rfl, rfl, rfl, by decide, by decide⟩ rfl (by exact Nat.le_of_ble_eq_true rfl) ?_
    refine qb_aload_n hX 6 rfl rfl ?_
    refine qb_iconst hX 7 1 rfl (by decide) ?_
    refine qb_putZ hX 8 rfl fp_Top_330 hthis ?_
    refine qb_aload_n hX 9 rfl rfl ?_
    refine qb_getR hX 10 rfl fl_Top_48 hthis rfl ?_
    exact qb_aret hX 11 rfl hR (fun _ h => h)
theorem jm_Top_laidOut {l : Launch} {G : qm_G} (hG : qm_GI G) (this : Nat) (hthis : (qm_kd this).1 = 18) : qm_MR l G jy_Top_laidOut prog_1_method_39_code 1 (some (.object "ColumnsLevelled$Press")) 5 114 [.ref (G.1 this)] (jf_Top_laidOut this) :=
  qm_metR (by decide +kernel) jd_Top_laidOut (fun v hv => by simp only [List.mem_cons, List.not_mem_nil, or_false] at hv; rcases hv with rfl <;> rfl) (by exact Nat.le_of_ble_eq_true rfl) hG rfl (Or.inl ⟨_, rfl⟩) (fun X hl hg hX r0 σ0 hR => by subst hl; subst hg; exact jb_Top_laidOut hX hR this hthis)
def jl_Top_block : List qm_I := [(0, .aload_n 0, 1, 1), (1, .getfield 12, 3, 4), (4, .iload_n 1, 1, 5), (5, .invokevirtual 116, 3, 8), (8, .ifCond .ne 5, 3, 11), (11, .iconst (-1), 1, 12), (12, .ireturn, 1, 13), (13, .iload_n 2, 1, 14), (14, .tableswitch 147 0 8 #[50, 60, 70, 85, 95, 105, 115, 125, 136], 50, 64), (64, .aload_n 0, 1, 65), (65, .getfield 12, 3, 68), (68, .iload_n 1, 1, 69), (69, .iconst 0, 1, 70), (70, .invokevirtual 108, 3, 73), (73, .ireturn, 1, 74), (74, .aload_n 0, 1, 75), (75, .getfield 12, 3, 78), (78, .iload_n 1, 1, 79), (79, .iconst 1, 1, 80), (80, .invokevirtual 108, 3, 83), (83, .ireturn, 1, 84), (84, .aload_n 0, 1, 85), (85, .invokevirtual 140, 3, 88), (88, .getfield 144, 3, 91), (91, .getfield 148, 3, 94), (94, .iload_n 1, 1, 95), (95, .invokestatic 154, 3, 98), (98, .ireturn, 1, 99), (99, .aload_n 0, 1, 100), (100, .getfield 12, 3, 103), (103, .iload_n 1, 1, 104), (104, .iconst 2, 1, 105), (105, .invokevirtual 108, 3, 108), (108, .ireturn, 1, 109), (109, .aload_n 0, 1, 110), (110, .getfield 12, 3, 113), (113, .iload_n 1, 1, 114), (114, .iconst 3, 1, 115), (115, .invokevirtual 108, 3, 118), (118, .ireturn, 1, 119), (119, .aload_n 0, 1, 120), (120, .getfield 12, 3, 123), (123, .iload_n 1, 1, 124), (124, .iconst 4, 1, 125), (125, .invokevirtual 108, 3, 128), (128, .ireturn, 1, 129), (129, .aload_n 0, 1, 130), (130, .getfield 12, 3, 133), (133, .iload_n 1, 1, 134), (134, .iconst 5, 1, 135), (135, .invokevirtual 108, 3, 138), (138, .ireturn, 1, 139), (139, .aload_n 0, 1, 140), (140, .getfield 12, 3, 143), (143, .iload_n 1, 1, 144), (144, .bipush 6, 2, 146), (146, .invokevirtual 108, 3, 149), (149, .ireturn, 1, 150), (150, .aload_n 0, 1, 151), (151, .getfield 12, 3, 154), (154, .iload_n 1, 1, 155), (155, .bipush 7, 2, 157), (157, .invokevirtual 108, 3, 160), (160, .ireturn, 1, 161), (161, .iconst (-1), 1, 162), (162, .ireturn, 1, 163)]
theorem jd_Top_block : qm_D prog_1_method_14_code jl_Top_block := qm_D_of (by decide +kernel)
noncomputable def jf_Top_block (this : Nat) (p1 : Int32) (p2 : Int32) : qm_M Int32 :=
  mB (jf_Run_has (qm_rf this 0) p1) fun x1 =>
  if ¬ x1 = 0 then
    if p2 = 0 then
      mB (jf_Run_cell (qm_rf this 0) p1 0) fun x2 =>
      mP x2
    else
    if p2 = 1 then
      mB (jf_Run_cell (qm_rf this 0) p1 1) fun x3 =>
      mP x3
    else
    if p2 = 2 then
      mB (mK 13 (jf_Top_laidOut this)) fun r4 =>
      mB (jf_Top_at (qm_rf (qm_rf r4 1) 4) p1) fun x5 =>
      mP x5
    else
    if p2 = 3 then
      mB (jf_Run_cell (qm_rf this 0) p1 2) fun x6 =>
      mP x6
    else
    if p2 = 4 then
      mB (jf_Run_cell (qm_rf this 0) p1 3) fun x7 =>
      mP x7
    else
    if p2 = 5 then
      mB (jf_Run_cell (qm_rf this 0) p1 4) fun x8 =>
      mP x8
    else
    if p2 = 6 then
      mB (jf_Run_cell (qm_rf this 0) p1 5) fun x9 =>
      mP x9
    else
    if p2 = 7 then
      mB (jf_Run_cell (qm_rf this 0) p1 6) fun x10 =>
      mP x10
    else
    if p2 = 8 then
      mB (jf_Run_cell (qm_rf this 0) p1 7) fun x11 =>
      mP x11
    else
    mP (-1)
  else
    mP (-1)
set_option maxRecDepth 20000 in
set_option maxHeartbeats 4000000 in
theorem jb_Top_block {X : qm_X} (hX : qm_ok X qr_Top prog_1_method_14_code 3 6 134 jl_Top_block) {r0 : Int32} {σ0 : qm_Mem} (hR : qm_RI X r0 σ0 .int) (this : Nat) (p1 : Int32) (p2 : Int32) (hthis : (qm_kd this).1 = 18) : qm_B X (jf_Top_block this p1 p2) 0 [some (.ref (qx_ad X this)), some (.int p1), some (.int p2)] [] (fun r σ1 => r = r0 ∧ σ1 = σ0) := by
  unfold jf_Top_block
  refine qb_aload_n hX 0 rfl rfl ?_
  refine qb_getR hX 1 rfl fl_Top_12 hthis rfl ?_
  refine qb_iload_n hX 2 rfl rfl ?_
  refine qb_callI hX 3 rfl cv_Top_116 (jm_Run_has (qk_GI hX) (qm_rf this 0) p1 (kf_Top_0 hthis) ) (ci := 4) (kf_Top_0 hthis) ⟨rfl, rfl, rfl, by decide, by decide⟩ rfl (by exact Nat.le_of_ble_eq_true rfl) (fun x1 => ?_)
  refine qb_ifne hX 4 13 rfl (by decide) ?_ ?_
  ·
    refine qb_iload_n hX 7 rfl rfl ?_
    refine qb_swc 0 ?_ (fun h0 => ?_)
    ·
      refine qb_tin hX 8 64 rfl (by decide) (by decide) rfl (by decide) ?_
      refine qb_aload_n hX 9 rfl rfl ?_
      refine qb_getR hX 10 rfl fl_Top_12 hthis rfl ?_
      refine qb_iload_n hX 11 rfl rfl ?_
      refine qb_iconst hX 12 0 rfl (by decide) ?_
      refine qb_callI hX 13 rfl cv_Top_108 (jm_Run_cell (qk_GI hX) (qm_rf this 0) p1 0 (kf_Top_0 hthis) ) (ci := 4) (kf_Top_0 hthis) ⟨rfl, rfl, rfl, by decide, by decide⟩ rfl (by exact Nat.le_of_ble_eq_true rfl) (fun x2 => ?_)
      exact qb_iret hX 14 rfl hR (fun _ h => h)
    refine qb_swc 1 ?_ (fun h1 => ?_)
    ·
      refine qb_tin hX 8 74 rfl (by decide) (by decide) rfl (by decide) ?_
      refine qb_aload_n hX 15 rfl rfl ?_
      refine qb_getR hX 16 rfl fl_Top_12 hthis rfl ?_
      refine qb_iload_n hX 17 rfl rfl ?_
      refine qb_iconst hX 18 1 rfl (by decide) ?_
      refine qb_callI hX 19 rfl cv_Top_108 (jm_Run_cell (qk_GI hX) (qm_rf this 0) p1 1 (kf_Top_0 hthis) ) (ci := 4) (kf_Top_0 hthis) ⟨rfl, rfl, rfl, by decide, by decide⟩ rfl (by exact Nat.le_of_ble_eq_true rfl) (fun x3 => ?_)
      exact qb_iret hX 20 rfl hR (fun _ h => h)
    refine qb_swc 2 ?_ (fun h2 => ?_)
    ·
      refine qb_tin hX 8 84 rfl (by decide) (by decide) rfl (by decide) ?_
      refine qb_aload_n hX 21 rfl rfl ?_
      refine qb_callR hX 22 rfl cv_Top_140 (jm_Top_laidOut (qk_GI hX) this  hthis ) (ci := 8) hthis ⟨rfl, rfl, rfl, by decide, by decide⟩ rfl (by exact Nat.le_of_ble_eq_true rfl) (fun r4 hr4 => ?_)
      refine qb_getR hX 23 rfl fl_Top_144 hr4 rfl ?_
      refine qb_getR hX 24 rfl fl_Top_148 (kf_Press_1 hr4) rfl ?_
      refine qb_iload_n hX 25 rfl rfl ?_
      refine qb_calSI hX 26 rfl cv_Top_154 (jm_Top_at (qk_GI hX) (qm_rf (qm_rf r4 1) 4) p1 (kf_Flow_4 (kf_Press_1 hr4))) ⟨rfl, by decide, by decide⟩ rfl (by exact Nat.le_of_ble_eq_true rfl) (fun x5 => ?_)
      exact qb_iret hX 27 rfl hR (fun _ h => h)
    refine qb_swc 3 ?_ (fun h3 => ?_)
    ·
      refine qb_tin hX 8 99 rfl (by decide) (by decide) rfl (by decide) ?_
      refine qb_aload_n hX 28 rfl rfl ?_
      refine qb_getR hX 29 rfl fl_Top_12 hthis rfl ?_
      refine qb_iload_n hX 30 rfl rfl ?_
      refine qb_iconst hX 31 2 rfl (by decide) ?_
      refine qb_callI hX 32 rfl cv_Top_108 (jm_Run_cell (qk_GI hX) (qm_rf this 0) p1 2 (kf_Top_0 hthis) ) (ci := 4) (kf_Top_0 hthis) ⟨rfl, rfl, rfl, by decide, by decide⟩ rfl (by exact Nat.le_of_ble_eq_true rfl) (fun x6 => ?_)
      exact qb_iret hX 33 rfl hR (fun _ h => h)
    refine qb_swc 4 ?_ (fun h4 => ?_)
    ·
      refine qb_tin hX 8 109 rfl (by decide) (by decide) rfl (by decide) ?_
      refine qb_aload_n hX 34 rfl rfl ?_
      refine qb_getR hX 35 rfl fl_Top_12 hthis rfl ?_
      refine qb_iload_n hX 36 rfl rfl ?_
      refine qb_iconst hX 37 3 rfl (by decide) ?_
      refine qb_callI hX 38 rfl cv_Top_108 (jm_Run_cell (qk_GI hX) (qm_rf this 0) p1 3 (kf_Top_0 hthis) ) (ci := 4) (kf_Top_0 hthis) ⟨rfl, rfl, rfl, by decide, by decide⟩ rfl (by exact Nat.le_of_ble_eq_true rfl) (fun x7 => ?_)
      exact qb_iret hX 39 rfl hR (fun _ h => h)
    refine qb_swc 5 ?_ (fun h5 => ?_)
    ·
      refine qb_tin hX 8 119 rfl (by decide) (by decide) rfl (by decide) ?_
      refine qb_aload_n hX 40 rfl rfl ?_
      refine qb_getR hX 41 rfl fl_Top_12 hthis rfl ?_
      refine qb_iload_n hX 42 rfl rfl ?_
      refine qb_iconst hX 43 4 rfl (by decide) ?_
      refine qb_callI hX 44 rfl cv_Top_108 (jm_Run_cell (qk_GI hX) (qm_rf this 0) p1 4 (kf_Top_0 hthis) ) (ci := 4) (kf_Top_0 hthis) ⟨rfl, rfl, rfl, by decide, by decide⟩ rfl (by exact Nat.le_of_ble_eq_true rfl) (fun x8 => ?_)
      exact qb_iret hX 45 rfl hR (fun _ h => h)
    refine qb_swc 6 ?_ (fun h6 => ?_)
    ·
      refine qb_tin hX 8 129 rfl (by decide) (by decide) rfl (by decide) ?_
      refine qb_aload_n hX 46 rfl rfl ?_
      refine qb_getR hX 47 rfl fl_Top_12 hthis rfl ?_
      refine qb_iload_n hX 48 rfl rfl ?_
      refine qb_iconst hX 49 5 rfl (by decide) ?_
      refine qb_callI hX 50 rfl cv_Top_108 (jm_Run_cell (qk_GI hX) (qm_rf this 0) p1 5 (kf_Top_0 hthis) ) (ci := 4) (kf_Top_0 hthis) ⟨rfl, rfl, rfl, by decide, by decide⟩ rfl (by exact Nat.le_of_ble_eq_true rfl) (fun x9 => ?_)
      exact qb_iret hX 51 rfl hR (fun _ h => h)
    refine qb_swc 7 ?_ (fun h7 => ?_)
    ·
      refine qb_tin hX 8 139 rfl (by decide) (by decide) rfl (by decide) ?_
      refine qb_aload_n hX 52 rfl rfl ?_
      refine qb_getR hX 53 rfl fl_Top_12 hthis rfl ?_
      refine qb_iload_n hX 54 rfl rfl ?_
      refine qb_bipush hX 55 6 rfl (by decide) ?_
      refine qb_callI hX 56 rfl cv_Top_108 (jm_Run_cell (qk_GI hX) (qm_rf this 0) p1 6 (kf_Top_0 hthis) ) (ci := 4) (kf_Top_0 hthis) ⟨rfl, rfl, rfl, by decide, by decide⟩ rfl (by exact Nat.le_of_ble_eq_true rfl) (fun x10 => ?_)
      exact qb_iret hX 57 rfl hR (fun _ h => h)
    refine qb_swc 8 ?_ (fun h8 => ?_)
    ·
      refine qb_tin hX 8 150 rfl (by decide) (by decide) rfl (by decide) ?_
      refine qb_aload_n hX 58 rfl rfl ?_
      refine qb_getR hX 59 rfl fl_Top_12 hthis rfl ?_
      refine qb_iload_n hX 60 rfl rfl ?_
      refine qb_bipush hX 61 7 rfl (by decide) ?_
      refine qb_callI hX 62 rfl cv_Top_108 (jm_Run_cell (qk_GI hX) (qm_rf this 0) p1 7 (kf_Top_0 hthis) ) (ci := 4) (kf_Top_0 hthis) ⟨rfl, rfl, rfl, by decide, by decide⟩ rfl (by exact Nat.le_of_ble_eq_true rfl) (fun x11 => ?_)
      exact qb_iret hX 63 rfl hR (fun _ h => h)
    refine qb_tout hX 8 161 rfl (by have g0 := lv_neT (a := 0) h0 (by decide); have g1 := lv_neT (a := 1) h1 (by decide); have g2 := lv_neT (a := 2) h2 (by decide); have g3 := lv_neT (a := 3) h3 (by decide); have g4 := lv_neT (a := 4) h4 (by decide); have g5 := lv_neT (a := 5) h5 (by decide); have g6 := lv_neT (a := 6) h6 (by decide); have g7 := lv_neT (a := 7) h7 (by decide); have g8 := lv_neT (a := 8) h8 (by decide); omega) (by decide) ?_
    refine qb_iconst hX 64 (-1) rfl (by decide) ?_
    exact qb_iret hX 65 rfl hR (fun _ h => h)
  ·
    refine qb_iconst hX 5 (-1) rfl (by decide) ?_
    exact qb_iret hX 6 rfl hR (fun _ h => h)
theorem jm_Top_block {l : Launch} {G : qm_G} (hG : qm_GI G) (this : Nat) (p1 : Int32) (p2 : Int32) (hthis : (qm_kd this).1 = 18) : qm_MI l G jy_Top_block prog_1_method_14_code 3 (some .int) 6 134 [.ref (G.1 this), .int p1, .int p2] (jf_Top_block this p1 p2) :=
  qm_metI (by decide +kernel) jd_Top_block (fun v hv => by simp only [List.mem_cons, List.not_mem_nil, or_false] at hv; rcases hv with rfl | rfl | rfl <;> rfl) (by exact Nat.le_of_ble_eq_true rfl) hG rfl (fun X hl hg hX r0 σ0 hR => by subst hl; subst hg; exact jb_Top_block hX hR this p1 p2 hthis)
def jl_Top_piece : List qm_I := [(0, .aload_n 0, 1, 1), (1, .invokevirtual 140, 3, 4), (4, .getfield 144, 3, 7), (7, .astore_n 3, 1, 8), (8, .iload_n 1, 1, 9), (9, .ifCond .lt 11, 3, 12), (12, .iload_n 1, 1, 13), (13, .aload_n 3, 1, 14), (14, .getfield 158, 3, 17), (17, .if_icmp .lt 5, 3, 20), (20, .iconst (-1), 1, 21), (21, .ireturn, 1, 22), (22, .iload_n 2, 1, 23), (23, .tableswitch 111 0 6 #[41, 50, 59, 68, 77, 86, 102], 41, 64), (64, .aload_n 3, 1, 65), (65, .getfield 161, 3, 68), (68, .iload_n 1, 1, 69), (69, .invokestatic 154, 3, 72), (72, .ireturn, 1, 73), (73, .aload_n 3, 1, 74), (74, .getfield 164, 3, 77), (77, .iload_n 1, 1, 78), (78, .invokestatic 154, 3, 81), (81, .ireturn, 1, 82), (82, .aload_n 3, 1, 83), (83, .getfield 167, 3, 86), (86, .iload_n 1, 1, 87), (87, .invokestatic 154, 3, 90), (90, .ireturn, 1, 91), (91, .aload_n 3, 1, 92), (92, .getfield 170, 3, 95), (95, .iload_n 1, 1, 96), (96, .invokestatic 154, 3, 99), (99, .ireturn, 1, 100), (100, .aload_n 3, 1, 101), (101, .getfield 173, 3, 104), (104, .iload_n 1, 1, 105), (105, .invokestatic 154, 3, 108), (108, .ireturn, 1, 109), (109, .aload_n 3, 1, 110), (110, .iload_n 1, 1, 111), (111, .iconst 1, 1, 112), (112, .iadd, 1, 113), (113, .invokevirtual 176, 3, 116), (116, .ifCond .eq 7, 3, 119), (119, .iconst 1, 1, 120), (120, .goto 4, 3, 123), (123, .iconst 0, 1, 124), (124, .ireturn, 1, 125), (125, .aload_n 3, 1, 126), (126, .getfield 179, 3, 129), (129, .iload_n 1, 1, 130), (130, .invokestatic 154, 3, 133), (133, .ireturn, 1, 134), (134, .iconst (-1), 1, 135), (135, .ireturn, 1, 136)]
theorem jd_Top_piece : qm_D prog_1_method_15_code jl_Top_piece := qm_D_of (by decide +kernel)
noncomputable def jf_Top_piece (this : Nat) (p1 : Int32) (p2 : Int32) : qm_M Int32 :=
  mB (mK 13 (jf_Top_laidOut this)) fun r1 =>
  if p1 < 0 then
    mP (-1)
  else
    mB (mGt (qm_rf r1 1) 0) fun x2 =>
    if p1 < x2 then
      if p2 = 0 then
        mB (jf_Top_at (qm_rf (qm_rf r1 1) 5) p1) fun x3 =>
        mP x3
      else
      if p2 = 1 then
        mB (jf_Top_at (qm_rf (qm_rf r1 1) 6) p1) fun x4 =>
        mP x4
      else
      if p2 = 2 then
        mB (jf_Top_at (qm_rf (qm_rf r1 1) 7) p1) fun x5 =>
        mP x5
      else
      if p2 = 3 then
        mB (jf_Top_at (qm_rf (qm_rf r1 1) 8) p1) fun x6 =>
        mP x6
      else
      if p2 = 4 then
        mB (jf_Top_at (qm_rf (qm_rf r1 1) 9) p1) fun x7 =>
        mP x7
      else
      if p2 = 5 then
        mB (jf_Flow_mayEnd (qm_rf r1 1) (p1 + 1)) fun x8 =>
        if x8 = 0 then
          mP 0
        else
          mP 1
      else
      if p2 = 6 then
        mB (jf_Top_at (qm_rf (qm_rf r1 1) 10) p1) fun x9 =>
        mP x9
      else
      mP (-1)
    else
      mP (-1)
set_option maxRecDepth 20000 in
set_option maxHeartbeats 4000000 in
theorem jb_Top_piece {X : qm_X} (hX : qm_ok X qr_Top prog_1_method_15_code 4 6 134 jl_Top_piece) {r0 : Int32} {σ0 : qm_Mem} (hR : qm_RI X r0 σ0 .int) (this : Nat) (p1 : Int32) (p2 : Int32) (hthis : (qm_kd this).1 = 18) : qm_B X (jf_Top_piece this p1 p2) 0 [some (.ref (qx_ad X this)), some (.int p1), some (.int p2), none] [] (fun r σ1 => r = r0 ∧ σ1 = σ0) := by
  unfold jf_Top_piece
  refine qb_aload_n hX 0 rfl rfl ?_
  refine qb_callR hX 1 rfl cv_Top_140 (jm_Top_laidOut (qk_GI hX) this  hthis ) (ci := 8) hthis ⟨rfl, rfl, rfl, by decide, by decide⟩ rfl (by exact Nat.le_of_ble_eq_true rfl) (fun r1 hr1 => ?_)
  refine qb_getR hX 2 rfl fl_Top_144 hr1 rfl ?_
  refine qb_astore_n hX 3 ([some (.ref (qx_ad X this)), some (.int p1), some (.int p2), some (.ref (qx_ad X (qm_rf r1 1)))]) rfl (by decide) rfl ?_
  refine qb_iload_n hX 4 rfl rfl ?_
  refine qb_iflt hX 5 20 rfl (by decide) ?_ ?_
  ·
    refine qb_iconst hX 10 (-1) rfl (by decide) ?_
    exact qb_iret hX 11 rfl hR (fun _ h => h)
  ·
    refine qb_iload_n hX 6 rfl rfl ?_
    refine qb_aload_n hX 7 rfl rfl ?_
    refine qb_get hX 8 rfl fl_Top_158 (kf_Press_1 hr1) rfl (fun x2 => ?_)
    refine qb_iclt hX 9 22 rfl (by decide) ?_ ?_
    ·
      refine qb_iload_n hX 12 rfl rfl ?_
      refine qb_swc 0 ?_ (fun h0 => ?_)
      ·
        refine qb_tin hX 13 64 rfl (by decide) (by decide) rfl (by decide) ?_
        refine qb_aload_n hX 14 rfl rfl ?_
        refine qb_getR hX 15 rfl fl_Top_161 (kf_Press_1 hr1) rfl ?_
        refine qb_iload_n hX 16 rfl rfl ?_
        refine qb_calSI hX 17 rfl cv_Top_154 (jm_Top_at (qk_GI hX) (qm_rf (qm_rf r1 1) 5) p1 (kf_Flow_5 (kf_Press_1 hr1))) ⟨rfl, by decide, by decide⟩ rfl (by exact Nat.le_of_ble_eq_true rfl) (fun x3 => ?_)
        exact qb_iret hX 18 rfl hR (fun _ h => h)
      refine qb_swc 1 ?_ (fun h1 => ?_)
      ·
        refine qb_tin hX 13 73 rfl (by decide) (by decide) rfl (by decide) ?_
        refine qb_aload_n hX 19 rfl rfl ?_
        refine qb_getR hX 20 rfl fl_Top_164 (kf_Press_1 hr1) rfl ?_
        refine qb_iload_n hX 21 rfl rfl ?_
        refine qb_calSI hX 22 rfl cv_Top_154 (jm_Top_at (qk_GI hX) (qm_rf (qm_rf r1 1) 6) p1 (kf_Flow_6 (kf_Press_1 hr1))) ⟨rfl, by decide, by decide⟩ rfl (by exact Nat.le_of_ble_eq_true rfl) (fun x4 => ?_)
        exact qb_iret hX 23 rfl hR (fun _ h => h)
      refine qb_swc 2 ?_ (fun h2 => ?_)
      ·
        refine qb_tin hX 13 82 rfl (by decide) (by decide) rfl (by decide) ?_
        refine qb_aload_n hX 24 rfl rfl ?_
        refine qb_getR hX 25 rfl fl_Top_167 (kf_Press_1 hr1) rfl ?_
        refine qb_iload_n hX 26 rfl rfl ?_
        refine qb_calSI hX 27 rfl cv_Top_154 (jm_Top_at (qk_GI hX) (qm_rf (qm_rf r1 1) 7) p1 (kf_Flow_7 (kf_Press_1 hr1))) ⟨rfl, by decide, by decide⟩ rfl (by exact Nat.le_of_ble_eq_true rfl) (fun x5 => ?_)
        exact qb_iret hX 28 rfl hR (fun _ h => h)
      refine qb_swc 3 ?_ (fun h3 => ?_)
      ·
        refine qb_tin hX 13 91 rfl (by decide) (by decide) rfl (by decide) ?_
        refine qb_aload_n hX 29 rfl rfl ?_
        refine qb_getR hX 30 rfl fl_Top_170 (kf_Press_1 hr1) rfl ?_
        refine qb_iload_n hX 31 rfl rfl ?_
        refine qb_calSI hX 32 rfl cv_Top_154 (jm_Top_at (qk_GI hX) (qm_rf (qm_rf r1 1) 8) p1 (kf_Flow_8 (kf_Press_1 hr1))) ⟨rfl, by decide, by decide⟩ rfl (by exact Nat.le_of_ble_eq_true rfl) (fun x6 => ?_)
        exact qb_iret hX 33 rfl hR (fun _ h => h)
      refine qb_swc 4 ?_ (fun h4 => ?_)
      ·
        refine qb_tin hX 13 100 rfl (by decide) (by decide) rfl (by decide) ?_
        refine qb_aload_n hX 34 rfl rfl ?_
        refine qb_getR hX 35 rfl fl_Top_173 (kf_Press_1 hr1) rfl ?_
        refine qb_iload_n hX 36 rfl rfl ?_
        refine qb_calSI hX 37 rfl cv_Top_154 (jm_Top_at (qk_GI hX) (qm_rf (qm_rf r1 1) 9) p1 (kf_Flow_9 (kf_Press_1 hr1))) ⟨rfl, by decide, by decide⟩ rfl (by exact Nat.le_of_ble_eq_true rfl) (fun x7 => ?_)
        exact qb_iret hX 38 rfl hR (fun _ h => h)
      refine qb_swc 5 ?_ (fun h5 => ?_)
      ·
        refine qb_tin hX 13 109 rfl (by decide) (by decide) rfl (by decide) ?_
        refine qb_aload_n hX 39 rfl rfl ?_
        refine qb_iload_n hX 40 rfl rfl ?_
        refine qb_iconst hX 41 1 rfl (by decide) ?_
        refine qb_iadd hX 42 rfl ?_
        refine qb_callI hX 43 rfl cv_Top_176 (jm_Flow_mayEnd (qk_GI hX) (qm_rf r1 1) (p1 + 1) (kf_Press_1 hr1) ) (ci := 1) (kf_Press_1 hr1) ⟨rfl, rfl, rfl, by decide, by decide⟩ rfl (by exact Nat.le_of_ble_eq_true rfl) (fun x8 => ?_)
        refine qb_ifeq hX 44 123 rfl (by decide) ?_ ?_
        ·
          refine qb_iconst hX 47 0 rfl (by decide) ?_
          exact qb_iret hX 48 rfl hR (fun _ h => h)
        ·
          refine qb_iconst hX 45 1 rfl (by decide) ?_
          refine qb_goto hX 46 (tgt := 124) rfl (by decide) ?_
          exact qb_iret hX 48 rfl hR (fun _ h => h)
      refine qb_swc 6 ?_ (fun h6 => ?_)
      ·
        refine qb_tin hX 13 125 rfl (by decide) (by decide) rfl (by decide) ?_
        refine qb_aload_n hX 49 rfl rfl ?_
        refine qb_getR hX 50 rfl fl_Top_179 (kf_Press_1 hr1) rfl ?_
        refine qb_iload_n hX 51 rfl rfl ?_
        refine qb_calSI hX 52 rfl cv_Top_154 (jm_Top_at (qk_GI hX) (qm_rf (qm_rf r1 1) 10) p1 (kf_Flow_10 (kf_Press_1 hr1))) ⟨rfl, by decide, by decide⟩ rfl (by exact Nat.le_of_ble_eq_true rfl) (fun x9 => ?_)
        exact qb_iret hX 53 rfl hR (fun _ h => h)
      refine qb_tout hX 13 134 rfl (by have g0 := lv_neT (a := 0) h0 (by decide); have g1 := lv_neT (a := 1) h1 (by decide); have g2 := lv_neT (a := 2) h2 (by decide); have g3 := lv_neT (a := 3) h3 (by decide); have g4 := lv_neT (a := 4) h4 (by decide); have g5 := lv_neT (a := 5) h5 (by decide); have g6 := lv_neT (a := 6) h6 (by decide); omega) (by decide) ?_
      refine qb_iconst hX 54 (-1) rfl (by decide) ?_
      exact qb_iret hX 55 rfl hR (fun _ h => h)
    ·
      refine qb_iconst hX 10 (-1) rfl (by decide) ?_
      exact qb_iret hX 11 rfl hR (fun _ h => h)
theorem jm_Top_piece {l : Launch} {G : qm_G} (hG : qm_GI G) (this : Nat) (p1 : Int32) (p2 : Int32) (hthis : (qm_kd this).1 = 18) : qm_MI l G jy_Top_piece prog_1_method_15_code 4 (some .int) 6 134 [.ref (G.1 this), .int p1, .int p2] (jf_Top_piece this p1 p2) :=
  qm_metI (by decide +kernel) jd_Top_piece (fun v hv => by simp only [List.mem_cons, List.not_mem_nil, or_false] at hv; rcases hv with rfl | rfl | rfl <;> rfl) (by exact Nat.le_of_ble_eq_true rfl) hG rfl (fun X hl hg hX r0 σ0 hR => by subst hl; subst hg; exact jb_Top_piece hX hR this p1 p2 hthis)
def jl_Top_section : List qm_I := [(0, .aload_n 0, 1, 1), (1, .invokevirtual 140, 3, 4), (4, .getfield 144, 3, 7), (7, .astore_n 3, 1, 8), (8, .iload_n 1, 1, 9), (9, .ifCond .lt 11, 3, 12), (12, .iload_n 1, 1, 13), (13, .aload_n 3, 1, 14), (14, .getfield 182, 3, 17), (17, .if_icmp .lt 5, 3, 20), (20, .iconst (-1), 1, 21), (21, .ireturn, 1, 22), (22, .aload_n 3, 1, 23), (23, .getfield 185, 3, 26), (26, .iload_n 1, 1, 27), (27, .invokestatic 154, 3, 30), (30, .istore 4, 2, 32), (32, .aload_n 3, 1, 33), (33, .getfield 188, 3, 36), (36, .iload_n 1, 1, 37), (37, .invokestatic 154, 3, 40), (40, .istore 5, 2, 42), (42, .iload_n 2, 1, 43), (43, .tableswitch 66 0 4 #[33, 36, 39, 48, 57], 33, 76), (76, .iload 4, 2, 78), (78, .ireturn, 1, 79), (79, .iload 5, 2, 81), (81, .ireturn, 1, 82), (82, .aload_n 3, 1, 83), (83, .getfield 191, 3, 86), (86, .iload_n 1, 1, 87), (87, .invokestatic 154, 3, 90), (90, .ireturn, 1, 91), (91, .aload_n 3, 1, 92), (92, .iload 4, 2, 94), (94, .iload 5, 2, 96), (96, .invokevirtual 194, 3, 99), (99, .ireturn, 1, 100), (100, .aload_n 3, 1, 101), (101, .iload 4, 2, 103), (103, .iload 5, 2, 105), (105, .invokevirtual 197, 3, 108), (108, .ireturn, 1, 109), (109, .iconst (-1), 1, 110), (110, .ireturn, 1, 111)]
theorem jd_Top_section : qm_D prog_1_method_16_code jl_Top_section := qm_D_of (by decide +kernel)
noncomputable def jf_Top_section (this : Nat) (p1 : Int32) (p2 : Int32) : qm_M Int32 :=
  mB (mK 13 (jf_Top_laidOut this)) fun r1 =>
  if p1 < 0 then
    mP (-1)
  else
    mB (mGt (qm_rf r1 1) 1) fun x2 =>
    if p1 < x2 then
      mB (jf_Top_at (qm_rf (qm_rf r1 1) 16) p1) fun x3 =>
      mB (jf_Top_at (qm_rf (qm_rf r1 1) 17) p1) fun x4 =>
      if p2 = 0 then
        mP x3
      else
      if p2 = 1 then
        mP x4
      else
      if p2 = 2 then
        mB (jf_Top_at (qm_rf (qm_rf r1 1) 18) p1) fun x5 =>
        mP x5
      else
      if p2 = 3 then
        mB (jf_Flow_endsIn (qm_rf r1 1) x3 x4) fun x6 =>
        mP x6
      else
      if p2 = 4 then
        mB (jf_Flow_ownLines (qm_rf r1 1) x3 x4) fun x7 =>
        mP x7
      else
      mP (-1)
    else
      mP (-1)
set_option maxRecDepth 20000 in
set_option maxHeartbeats 4000000 in
theorem jb_Top_section {X : qm_X} (hX : qm_ok X qr_Top prog_1_method_16_code 6 6 134 jl_Top_section) {r0 : Int32} {σ0 : qm_Mem} (hR : qm_RI X r0 σ0 .int) (this : Nat) (p1 : Int32) (p2 : Int32) (hthis : (qm_kd this).1 = 18) : qm_B X (jf_Top_section this p1 p2) 0 [some (.ref (qx_ad X this)), some (.int p1), some (.int p2), none, none, none] [] (fun r σ1 => r = r0 ∧ σ1 = σ0) := by
  unfold jf_Top_section
  refine qb_aload_n hX 0 rfl rfl ?_
  refine qb_callR hX 1 rfl cv_Top_140 (jm_Top_laidOut (qk_GI hX) this  hthis ) (ci := 8) hthis ⟨rfl, rfl, rfl, by decide, by decide⟩ rfl (by exact Nat.le_of_ble_eq_true rfl) (fun r1 hr1 => ?_)
  refine qb_getR hX 2 rfl fl_Top_144 hr1 rfl ?_
  refine qb_astore_n hX 3 ([some (.ref (qx_ad X this)), some (.int p1), some (.int p2), some (.ref (qx_ad X (qm_rf r1 1))), none, none]) rfl (by decide) rfl ?_
  refine qb_iload_n hX 4 rfl rfl ?_
  refine qb_iflt hX 5 20 rfl (by decide) ?_ ?_
  ·
    refine qb_iconst hX 10 (-1) rfl (by decide) ?_
    exact qb_iret hX 11 rfl hR (fun _ h => h)
  ·
    refine qb_iload_n hX 6 rfl rfl ?_
    refine qb_aload_n hX 7 rfl rfl ?_
    refine qb_get hX 8 rfl fl_Top_182 (kf_Press_1 hr1) rfl (fun x2 => ?_)
    refine qb_iclt hX 9 22 rfl (by decide) ?_ ?_
    ·
      refine qb_aload_n hX 12 rfl rfl ?_
      refine qb_getR hX 13 rfl fl_Top_185 (kf_Press_1 hr1) rfl ?_
      refine qb_iload_n hX 14 rfl rfl ?_
      refine qb_calSI hX 15 rfl cv_Top_154 (jm_Top_at (qk_GI hX) (qm_rf (qm_rf r1 1) 16) p1 (kf_Flow_16 (kf_Press_1 hr1))) ⟨rfl, by decide, by decide⟩ rfl (by exact Nat.le_of_ble_eq_true rfl) (fun x3 => ?_)
      refine qb_istore hX 16 ([some (.ref (qx_ad X this)), some (.int p1), some (.int p2), some (.ref (qx_ad X (qm_rf r1 1))), some (.int x3), none]) rfl (by decide) rfl ?_
      refine qb_aload_n hX 17 rfl rfl ?_
      refine qb_getR hX 18 rfl fl_Top_188 (kf_Press_1 hr1) rfl ?_
      refine qb_iload_n hX 19 rfl rfl ?_
      refine qb_calSI hX 20 rfl cv_Top_154 (jm_Top_at (qk_GI hX) (qm_rf (qm_rf r1 1) 17) p1 (kf_Flow_17 (kf_Press_1 hr1))) ⟨rfl, by decide, by decide⟩ rfl (by exact Nat.le_of_ble_eq_true rfl) (fun x4 => ?_)
      refine qb_istore hX 21 ([some (.ref (qx_ad X this)), some (.int p1), some (.int p2), some (.ref (qx_ad X (qm_rf r1 1))), some (.int x3), some (.int x4)]) rfl (by decide) rfl ?_
      refine qb_iload_n hX 22 rfl rfl ?_
      refine qb_swc 0 ?_ (fun h0 => ?_)
      ·
        refine qb_tin hX 23 76 rfl (by decide) (by decide) rfl (by decide) ?_
        refine qb_iload hX 24 rfl rfl ?_
        exact qb_iret hX 25 rfl hR (fun _ h => h)
      refine qb_swc 1 ?_ (fun h1 => ?_)
      ·
        refine qb_tin hX 23 79 rfl (by decide) (by decide) rfl (by decide) ?_
        refine qb_iload hX 26 rfl rfl ?_
        exact qb_iret hX 27 rfl hR (fun _ h => h)
      refine qb_swc 2 ?_ (fun h2 => ?_)
      ·
        refine qb_tin hX 23 82 rfl (by decide) (by decide) rfl (by decide) ?_
        refine qb_aload_n hX 28 rfl rfl ?_
        refine qb_getR hX 29 rfl fl_Top_191 (kf_Press_1 hr1) rfl ?_
        refine qb_iload_n hX 30 rfl rfl ?_
        refine qb_calSI hX 31 rfl cv_Top_154 (jm_Top_at (qk_GI hX) (qm_rf (qm_rf r1 1) 18) p1 (kf_Flow_18 (kf_Press_1 hr1))) ⟨rfl, by decide, by decide⟩ rfl (by exact Nat.le_of_ble_eq_true rfl) (fun x5 => ?_)
        exact qb_iret hX 32 rfl hR (fun _ h => h)
      refine qb_swc 3 ?_ (fun h3 => ?_)
      ·
        refine qb_tin hX 23 91 rfl (by decide) (by decide) rfl (by decide) ?_
        refine qb_aload_n hX 33 rfl rfl ?_
        refine qb_iload hX 34 rfl rfl ?_
        refine qb_iload hX 35 rfl rfl ?_
        refine qb_callI hX 36 rfl cv_Top_194 (jm_Flow_endsIn (qk_GI hX) (qm_rf r1 1) x3 x4 (kf_Press_1 hr1) ) (ci := 1) (kf_Press_1 hr1) ⟨rfl, rfl, rfl, by decide, by decide⟩ rfl (by exact Nat.le_of_ble_eq_true rfl) (fun x6 => ?_)
        exact qb_iret hX 37 rfl hR (fun _ h => h)
      refine qb_swc 4 ?_ (fun h4 => ?_)
      ·
        refine qb_tin hX 23 100 rfl (by decide) (by decide) rfl (by decide) ?_
        refine qb_aload_n hX 38 rfl rfl ?_
        refine qb_iload hX 39 rfl rfl ?_
        refine qb_iload hX 40 rfl rfl ?_
        refine qb_callI hX 41 rfl cv_Top_197 (jm_Flow_ownLines (qk_GI hX) (qm_rf r1 1) x3 x4 (kf_Press_1 hr1) ) (ci := 1) (kf_Press_1 hr1) ⟨rfl, rfl, rfl, by decide, by decide⟩ rfl (by exact Nat.le_of_ble_eq_true rfl) (fun x7 => ?_)
        exact qb_iret hX 42 rfl hR (fun _ h => h)
      refine qb_tout hX 23 109 rfl (by have g0 := lv_neT (a := 0) h0 (by decide); have g1 := lv_neT (a := 1) h1 (by decide); have g2 := lv_neT (a := 2) h2 (by decide); have g3 := lv_neT (a := 3) h3 (by decide); have g4 := lv_neT (a := 4) h4 (by decide); omega) (by decide) ?_
      refine qb_iconst hX 43 (-1) rfl (by decide) ?_
      exact qb_iret hX 44 rfl hR (fun _ h => h)
    ·
      refine qb_iconst hX 10 (-1) rfl (by decide) ?_
      exact qb_iret hX 11 rfl hR (fun _ h => h)
theorem jm_Top_section {l : Launch} {G : qm_G} (hG : qm_GI G) (this : Nat) (p1 : Int32) (p2 : Int32) (hthis : (qm_kd this).1 = 18) : qm_MI l G jy_Top_section prog_1_method_16_code 6 (some .int) 6 134 [.ref (G.1 this), .int p1, .int p2] (jf_Top_section this p1 p2) :=
  qm_metI (by decide +kernel) jd_Top_section (fun v hv => by simp only [List.mem_cons, List.not_mem_nil, or_false] at hv; rcases hv with rfl | rfl | rfl <;> rfl) (by exact Nat.le_of_ble_eq_true rfl) hG rfl (fun X hl hg hX r0 σ0 hR => by subst hl; subst hg; exact jb_Top_section hX hR this p1 p2 hthis)
def jl_Top_count : List qm_I := [(0, .iload_n 1, 1, 1), (1, .bipush 10, 2, 3), (3, .if_icmp .lt 21, 3, 6), (6, .iload_n 1, 1, 7), (7, .bipush 18, 2, 9), (9, .if_icmp .ge 15, 3, 12), (12, .aload_n 0, 1, 13), (13, .getfield 12, 3, 16), (16, .iload_n 1, 1, 17), (17, .bipush 10, 2, 19), (19, .isub, 1, 20), (20, .invokevirtual 93, 3, 23), (23, .ireturn, 1, 24), (24, .iload_n 1, 1, 25), (25, .tableswitch 120 0 7 #[47, 55, 66, 77, 88, 96, 104, 109], 47, 72), (72, .aload_n 0, 1, 73), (73, .getfield 12, 3, 76), (76, .getfield 122, 3, 79), (79, .ireturn, 1, 80), (80, .aload_n 0, 1, 81), (81, .invokevirtual 140, 3, 84), (84, .getfield 144, 3, 87), (87, .getfield 158, 3, 90), (90, .ireturn, 1, 91), (91, .aload_n 0, 1, 92), (92, .invokevirtual 140, 3, 95), (95, .getfield 144, 3, 98), (98, .getfield 182, 3, 101), (101, .ireturn, 1, 102), (102, .aload_n 0, 1, 103), (103, .invokevirtual 140, 3, 106), (106, .getfield 144, 3, 109), (109, .getfield 200, 3, 112), (112, .ireturn, 1, 113), (113, .aload_n 0, 1, 114), (114, .getfield 35, 3, 117), (117, .getfield 83, 3, 120), (120, .ireturn, 1, 121), (121, .aload_n 0, 1, 122), (122, .getfield 19, 3, 125), (125, .getfield 64, 3, 128), (128, .ireturn, 1, 129), (129, .aload_n 0, 1, 130), (130, .getfield 137, 3, 133), (133, .ireturn, 1, 134), (134, .aload_n 0, 1, 135), (135, .invokevirtual 140, 3, 138), (138, .getfield 144, 3, 141), (141, .invokevirtual 203, 3, 144), (144, .ireturn, 1, 145), (145, .iconst (-1), 1, 146), (146, .ireturn, 1, 147)]
theorem jd_Top_count : qm_D prog_1_method_17_code jl_Top_count := qm_D_of (by decide +kernel)
noncomputable def jf_Top_count (this : Nat) (p1 : Int32) : qm_M Int32 :=
  mB (α := (Unit ⊕ Int32)) (
    if p1 < 10 then
      mP (Sum.inl ())
    else
      if 18 ≤ p1 then
        mP (Sum.inl ())
      else
        mB (jf_Run_setting (qm_rf this 0) (p1 - 10)) fun x2 =>
        mP (Sum.inr x2)) (Sum.elim (fun s1 =>
    if p1 = 0 then
      mB (mGt (qm_rf this 0) 0) fun x3 =>
      mP x3
    else
    if p1 = 1 then
      mB (mK 13 (jf_Top_laidOut this)) fun r4 =>
      mB (mGt (qm_rf r4 1) 0) fun x5 =>
      mP x5
    else
    if p1 = 2 then
      mB (mK 13 (jf_Top_laidOut this)) fun r6 =>
      mB (mGt (qm_rf r6 1) 1) fun x7 =>
      mP x7
    else
    if p1 = 3 then
      mB (mK 13 (jf_Top_laidOut this)) fun r8 =>
      mB (mGt (qm_rf r8 1) 2) fun x9 =>
      mP x9
    else
    if p1 = 4 then
      mB (mGt (qm_rf this 3) 2) fun x10 =>
      mP x10
    else
    if p1 = 5 then
      mB (mGt (qm_rf this 1) 1) fun x11 =>
      mP x11
    else
    if p1 = 6 then
      mB (mGt this 5) fun x12 =>
      mP x12
    else
    if p1 = 7 then
      mB (mK 13 (jf_Top_laidOut this)) fun r13 =>
      mB (jf_Flow_spans (qm_rf r13 1)) fun x14 =>
      mP x14
    else
    mP (-1)) mP)
set_option maxRecDepth 20000 in
set_option maxHeartbeats 4000000 in
theorem jb_Top_count {X : qm_X} (hX : qm_ok X qr_Top prog_1_method_17_code 2 6 134 jl_Top_count) {r0 : Int32} {σ0 : qm_Mem} (hR : qm_RI X r0 σ0 .int) (this : Nat) (p1 : Int32) (hthis : (qm_kd this).1 = 18) : qm_B X (jf_Top_count this p1) 0 [some (.ref (qx_ad X this)), some (.int p1)] [] (fun r σ1 => r = r0 ∧ σ1 = σ0) := by
  unfold jf_Top_count
  refine qb_iload_n hX 0 rfl rfl ?_
  refine qb_bipush hX 1 10 rfl (by decide) ?_
  refine qb_join2 24 (fun s1 => [some (.ref (qx_ad X this)), some (.int p1)]) (fun s1 => []) ?_ ?_
  ·
    refine qb_iclt hX 2 24 rfl (by decide) ?_ ?_
    ·
      exact qb_exit (fun σ h => qj_wk (ρ' := [some (.ref (qx_ad X this)), some (.int p1)]) (qw_s (qw_s (qw_0))) h)
    ·
      refine qb_iload_n hX 3 rfl rfl ?_
      refine qb_bipush hX 4 18 rfl (by decide) ?_
      refine qb_icge hX 5 24 rfl (by decide) ?_ ?_
      ·
        exact qb_exit (fun σ h => qj_wk (ρ' := [some (.ref (qx_ad X this)), some (.int p1)]) (qw_s (qw_s (qw_0))) h)
      ·
        refine qb_aload_n hX 6 rfl rfl ?_
        refine qb_getR hX 7 rfl fl_Top_12 hthis rfl ?_
        refine qb_iload_n hX 8 rfl rfl ?_
        refine qb_bipush hX 9 10 rfl (by decide) ?_
        refine qb_isub hX 10 rfl ?_
        refine qb_callI hX 11 rfl cv_Top_93 (jm_Run_setting (qk_GI hX) (qm_rf this 0) (p1 - 10) (kf_Top_0 hthis) ) (ci := 4) (kf_Top_0 hthis) ⟨rfl, rfl, rfl, by decide, by decide⟩ rfl (by exact Nat.le_of_ble_eq_true rfl) (fun x2 => ?_)
        exact qb_iret hX 12 rfl hR (fun _ h => h)
  · intro s1
    refine qb_iload_n hX 13 rfl rfl ?_
    refine qb_swc 0 ?_ (fun h0 => ?_)
    ·
      refine qb_tin hX 14 72 rfl (by decide) (by decide) rfl (by decide) ?_
      refine qb_aload_n hX 15 rfl rfl ?_
      refine qb_getR hX 16 rfl fl_Top_12 hthis rfl ?_
      refine qb_get hX 17 rfl fl_Top_122 (kf_Top_0 hthis) rfl (fun x3 => ?_)
      exact qb_iret hX 18 rfl hR (fun _ h => h)
    refine qb_swc 1 ?_ (fun h1 => ?_)
    ·
      refine qb_tin hX 14 80 rfl (by decide) (by decide) rfl (by decide) ?_
      refine qb_aload_n hX 19 rfl rfl ?_
      refine qb_callR hX 20 rfl cv_Top_140 (jm_Top_laidOut (qk_GI hX) this  hthis ) (ci := 8) hthis ⟨rfl, rfl, rfl, by decide, by decide⟩ rfl (by exact Nat.le_of_ble_eq_true rfl) (fun r4 hr4 => ?_)
      refine qb_getR hX 21 rfl fl_Top_144 hr4 rfl ?_
      refine qb_get hX 22 rfl fl_Top_158 (kf_Press_1 hr4) rfl (fun x5 => ?_)
      exact qb_iret hX 23 rfl hR (fun _ h => h)
    refine qb_swc 2 ?_ (fun h2 => ?_)
    ·
      refine qb_tin hX 14 91 rfl (by decide) (by decide) rfl (by decide) ?_
      refine qb_aload_n hX 24 rfl rfl ?_
      refine qb_callR hX 25 rfl cv_Top_140 (jm_Top_laidOut (qk_GI hX) this  hthis ) (ci := 8) hthis ⟨rfl, rfl, rfl, by decide, by decide⟩ rfl (by exact Nat.le_of_ble_eq_true rfl) (fun r6 hr6 => ?_)
      refine qb_getR hX 26 rfl fl_Top_144 hr6 rfl ?_
      refine qb_get hX 27 rfl fl_Top_182 (kf_Press_1 hr6) rfl (fun x7 => ?_)
      exact qb_iret hX 28 rfl hR (fun _ h => h)
    refine qb_swc 3 ?_ (fun h3 => ?_)
    ·
      refine qb_tin hX 14 102 rfl (by decide) (by decide) rfl (by decide) ?_
      refine qb_aload_n hX 29 rfl rfl ?_
      refine qb_callR hX 30 rfl cv_Top_140 (jm_Top_laidOut (qk_GI hX) this  hthis ) (ci := 8) hthis ⟨rfl, rfl, rfl, by decide, by decide⟩ rfl (by exact Nat.le_of_ble_eq_true rfl) (fun r8 hr8 => ?_)
      refine qb_getR hX 31 rfl fl_Top_144 hr8 rfl ?_
      refine qb_get hX 32 rfl fl_Top_200 (kf_Press_1 hr8) rfl (fun x9 => ?_)
      exact qb_iret hX 33 rfl hR (fun _ h => h)
    refine qb_swc 4 ?_ (fun h4 => ?_)
    ·
      refine qb_tin hX 14 113 rfl (by decide) (by decide) rfl (by decide) ?_
      refine qb_aload_n hX 34 rfl rfl ?_
      refine qb_getR hX 35 rfl fl_Top_35 hthis rfl ?_
      refine qb_get hX 36 rfl fl_Top_83 (kf_Top_3 hthis) rfl (fun x10 => ?_)
      exact qb_iret hX 37 rfl hR (fun _ h => h)
    refine qb_swc 5 ?_ (fun h5 => ?_)
    ·
      refine qb_tin hX 14 121 rfl (by decide) (by decide) rfl (by decide) ?_
      refine qb_aload_n hX 38 rfl rfl ?_
      refine qb_getR hX 39 rfl fl_Top_19 hthis rfl ?_
      refine qb_get hX 40 rfl fl_Top_64 (kf_Top_1 hthis) rfl (fun x11 => ?_)
      exact qb_iret hX 41 rfl hR (fun _ h => h)
    refine qb_swc 6 ?_ (fun h6 => ?_)
    ·
      refine qb_tin hX 14 129 rfl (by decide) (by decide) rfl (by decide) ?_
      refine qb_aload_n hX 42 rfl rfl ?_
      refine qb_get hX 43 rfl fl_Top_137 hthis rfl (fun x12 => ?_)
      exact qb_iret hX 44 rfl hR (fun _ h => h)
    refine qb_swc 7 ?_ (fun h7 => ?_)
    ·
      refine qb_tin hX 14 134 rfl (by decide) (by decide) rfl (by decide) ?_
      refine qb_aload_n hX 45 rfl rfl ?_
      refine qb_callR hX 46 rfl cv_Top_140 (jm_Top_laidOut (qk_GI hX) this  hthis ) (ci := 8) hthis ⟨rfl, rfl, rfl, by decide, by decide⟩ rfl (by exact Nat.le_of_ble_eq_true rfl) (fun r13 hr13 => ?_)
      refine qb_getR hX 47 rfl fl_Top_144 hr13 rfl ?_
      refine qb_callI hX 48 rfl cv_Top_203 (jm_Flow_spans (qk_GI hX) (qm_rf r13 1)  (kf_Press_1 hr13) ) (ci := 1) (kf_Press_1 hr13) ⟨rfl, rfl, rfl, by decide, by decide⟩ rfl (by exact Nat.le_of_ble_eq_true rfl) (fun x14 => ?_)
      exact qb_iret hX 49 rfl hR (fun _ h => h)
    refine qb_tout hX 14 145 rfl (by have g0 := lv_neT (a := 0) h0 (by decide); have g1 := lv_neT (a := 1) h1 (by decide); have g2 := lv_neT (a := 2) h2 (by decide); have g3 := lv_neT (a := 3) h3 (by decide); have g4 := lv_neT (a := 4) h4 (by decide); have g5 := lv_neT (a := 5) h5 (by decide); have g6 := lv_neT (a := 6) h6 (by decide); have g7 := lv_neT (a := 7) h7 (by decide); omega) (by decide) ?_
    refine qb_iconst hX 50 (-1) rfl (by decide) ?_
    exact qb_iret hX 51 rfl hR (fun _ h => h)
theorem jm_Top_count {l : Launch} {G : qm_G} (hG : qm_GI G) (this : Nat) (p1 : Int32) (hthis : (qm_kd this).1 = 18) : qm_MI l G jy_Top_count prog_1_method_17_code 2 (some .int) 6 134 [.ref (G.1 this), .int p1] (jf_Top_count this p1) :=
  qm_metI (by decide +kernel) jd_Top_count (fun v hv => by simp only [List.mem_cons, List.not_mem_nil, or_false] at hv; rcases hv with rfl | rfl <;> rfl) (by exact Nat.le_of_ble_eq_true rfl) hG rfl (fun X hl hg hX r0 σ0 hR => by subst hl; subst hg; exact jb_Top_count hX hR this p1 hthis)
def jl_Top_pouredNow : List qm_I := [(0, .aload_n 0, 1, 1), (1, .invokevirtual 140, 3, 4), (4, .astore_n 1, 1, 5), (5, .aload_n 0, 1, 6), (6, .getfield 334, 3, 9), (9, .ifCond .ne 13, 3, 12), (12, .aload_n 1, 1, 13), (13, .invokevirtual 315, 3, 16), (16, .pop, 1, 17), (17, .aload_n 0, 1, 18), (18, .iconst 1, 1, 19), (19, .putfield 334, 3, 22), (22, .aload_n 1, 1, 23), (23, .areturn, 1, 24)]
theorem jd_Top_pouredNow : qm_D prog_1_method_40_code jl_Top_pouredNow := qm_D_of (by decide +kernel)
noncomputable def jf_Top_pouredNow (this : Nat) : qm_M Nat :=
  mB (mK 13 (jf_Top_laidOut this)) fun r1 =>
  mB (mGt this 10) fun x2 =>
  if ¬ x2 = 0 then
    mP r1
  else
    mB (jf_Press_pourAll r1) fun x3 =>
    mB (mPz this 10 1) fun _ =>
    mP r1
set_option maxRecDepth 20000 in
set_option maxHeartbeats 4000000 in
theorem jb_Top_pouredNow {X : qm_X} (hX : qm_ok X qr_Top prog_1_method_40_code 2 6 154 jl_Top_pouredNow) {r0 : Nat} {σ0 : qm_Mem} (hR : qm_RR X r0 σ0 (.object "ColumnsLevelled$Press")) (this : Nat) (hthis : (qm_kd this).1 = 18) : qm_B X (jf_Top_pouredNow this) 0 [some (.ref (qx_ad X this)), none] [] (fun r σ1 => r = r0 ∧ σ1 = σ0) := by
  unfold jf_Top_pouredNow
  refine qb_aload_n hX 0 rfl rfl ?_
  refine qb_callR hX 1 rfl cv_Top_140 (jm_Top_laidOut (qk_GI hX) this  hthis ) (ci := 8) hthis ⟨rfl, rfl, rfl, by decide, by decide⟩ rfl (by exact Nat.le_of_ble_eq_true rfl) (fun r1 hr1 => ?_)
  refine qb_astore_n hX 2 ([some (.ref (qx_ad X this)), some (.ref (qx_ad X r1))]) rfl (by decide) rfl ?_
  refine qb_aload_n hX 3 rfl rfl ?_
  refine qb_get hX 4 rfl fl_Top_334 hthis rfl (fun x2 => ?_)
  refine qb_ifne hX 5 22 rfl (by decide) ?_ ?_
  ·
    refine qb_aload_n hX 12 rfl rfl ?_
    exact qb_aret hX 13 rfl hR (fun _ h => h)
  ·
    refine qb_aload_n hX 6 rfl rfl ?_
    refine qb_callI hX 7 rfl cv_Top_315 (jm_Press_pourAll (qk_GI hX) r1  hr1 ) (ci := 3) hr1 ⟨rfl, rfl, rfl, by decide, by decide⟩ rfl (by exact Nat.le_of_ble_eq_true rfl) (fun x3 => ?_)
    refine qb_pop hX 8 rfl rfl ?_
    refine qb_aload_n hX 9 rfl rfl ?_
    refine qb_iconst hX 10 1 rfl (by decide) ?_
    refine qb_putZ hX 11 rfl fp_Top_334 hthis ?_
    refine qb_aload_n hX 12 rfl rfl ?_
    exact qb_aret hX 13 rfl hR (fun _ h => h)
theorem jm_Top_pouredNow {l : Launch} {G : qm_G} (hG : qm_GI G) (this : Nat) (hthis : (qm_kd this).1 = 18) : qm_MR l G jy_Top_pouredNow prog_1_method_40_code 2 (some (.object "ColumnsLevelled$Press")) 6 154 [.ref (G.1 this)] (jf_Top_pouredNow this) :=
  qm_metR (by decide +kernel) jd_Top_pouredNow (fun v hv => by simp only [List.mem_cons, List.not_mem_nil, or_false] at hv; rcases hv with rfl <;> rfl) (by exact Nat.le_of_ble_eq_true rfl) hG rfl (Or.inl ⟨_, rfl⟩) (fun X hl hg hX r0 σ0 hR => by subst hl; subst hg; exact jb_Top_pouredNow hX hR this hthis)
def jl_Top_pour : List qm_I := [(0, .aload_n 0, 1, 1), (1, .invokevirtual 206, 3, 4), (4, .invokevirtual 209, 3, 7), (7, .ireturn, 1, 8)]
theorem jd_Top_pour : qm_D prog_1_method_18_code jl_Top_pour := qm_D_of (by decide +kernel)
noncomputable def jf_Top_pour (this : Nat) : qm_M Int32 :=
  mB (mK 13 (jf_Top_pouredNow this)) fun r1 =>
  mB (jf_Press_answer r1) fun x2 =>
  mP x2
set_option maxRecDepth 20000 in
set_option maxHeartbeats 4000000 in
theorem jb_Top_pour {X : qm_X} (hX : qm_ok X qr_Top prog_1_method_18_code 1 7 175 jl_Top_pour) {r0 : Int32} {σ0 : qm_Mem} (hR : qm_RI X r0 σ0 .int) (this : Nat) (hthis : (qm_kd this).1 = 18) : qm_B X (jf_Top_pour this) 0 [some (.ref (qx_ad X this))] [] (fun r σ1 => r = r0 ∧ σ1 = σ0) := by
  unfold jf_Top_pour
  refine qb_aload_n hX 0 rfl rfl ?_
  refine qb_callR hX 1 rfl cv_Top_206 (jm_Top_pouredNow (qk_GI hX) this  hthis ) (ci := 8) hthis ⟨rfl, rfl, rfl, by decide, by decide⟩ rfl (by exact Nat.le_of_ble_eq_true rfl) (fun r1 hr1 => ?_)
  refine qb_callI hX 2 rfl cv_Top_209 (jm_Press_answer (qk_GI hX) r1  hr1 ) (ci := 3) hr1 ⟨rfl, rfl, rfl, by decide, by decide⟩ rfl (by exact Nat.le_of_ble_eq_true rfl) (fun x2 => ?_)
  exact qb_iret hX 3 rfl hR (fun _ h => h)
theorem jm_Top_pour {l : Launch} {G : qm_G} (hG : qm_GI G) (this : Nat) (hthis : (qm_kd this).1 = 18) : qm_MI l G jy_Top_pour prog_1_method_18_code 1 (some .int) 7 175 [.ref (G.1 this)] (jf_Top_pour this) :=
  qm_metI (by decide +kernel) jd_Top_pour (fun v hv => by simp only [List.mem_cons, List.not_mem_nil, or_false] at hv; rcases hv with rfl <;> rfl) (by exact Nat.le_of_ble_eq_true rfl) hG rfl (fun X hl hg hX r0 σ0 hR => by subst hl; subst hg; exact jb_Top_pour hX hR this hthis)
def jl_Top_column : List qm_I := [(0, .aload_n 0, 1, 1), (1, .invokevirtual 206, 3, 4), (4, .astore_n 3, 1, 5), (5, .iload_n 1, 1, 6), (6, .iconst (-1), 1, 7), (7, .if_icmp .ne 12, 3, 10), (10, .iload_n 2, 1, 11), (11, .ifCond .ne 8, 3, 14), (14, .aload_n 3, 1, 15), (15, .getfield 212, 3, 18), (18, .ireturn, 1, 19), (19, .iload_n 1, 1, 20), (20, .ifCond .lt 21, 3, 23), (23, .iload_n 1, 1, 24), (24, .aload_n 3, 1, 25), (25, .getfield 212, 3, 28), (28, .if_icmp .ge 13, 3, 31), (31, .iload_n 2, 1, 32), (32, .ifCond .lt 9, 3, 35), (35, .iload_n 2, 1, 36), (36, .bipush 12, 2, 38), (38, .if_icmp .lt 5, 3, 41), (41, .iconst (-1), 1, 42), (42, .ireturn, 1, 43), (43, .aload_n 3, 1, 44), (44, .iload_n 1, 1, 45), (45, .iload_n 2, 1, 46), (46, .invokevirtual 215, 3, 49), (49, .ireturn, 1, 50)]
theorem jd_Top_column : qm_D prog_1_method_19_code jl_Top_column := qm_D_of (by decide +kernel)
noncomputable def jf_Top_column (this : Nat) (p1 : Int32) (p2 : Int32) : qm_M Int32 :=
  mB (mK 13 (jf_Top_pouredNow this)) fun r1 =>
  mB (α := (Unit ⊕ Int32)) (
    if ¬ p1 = (-1) then
      mP (Sum.inl ())
    else
      if ¬ p2 = 0 then
        mP (Sum.inl ())
      else
        mB (mGt r1 4) fun x3 =>
        mP (Sum.inr x3)) (Sum.elim (fun s2 =>
    if p1 < 0 then
      mP (-1)
    else
      mB (mGt r1 4) fun x4 =>
      if x4 ≤ p1 then
        mP (-1)
      else
        if p2 < 0 then
          mP (-1)
        else
          if p2 < 12 then
            mB (jf_Press_cell r1 p1 p2) fun x5 =>
            mP x5
          else
            mP (-1)) mP)
set_option maxRecDepth 20000 in
set_option maxHeartbeats 4000000 in
theorem jb_Top_column {X : qm_X} (hX : qm_ok X qr_Top prog_1_method_19_code 4 7 175 jl_Top_column) {r0 : Int32} {σ0 : qm_Mem} (hR : qm_RI X r0 σ0 .int) (this : Nat) (p1 : Int32) (p2 : Int32) (hthis : (qm_kd this).1 = 18) : qm_B X (jf_Top_column this p1 p2) 0 [some (.ref (qx_ad X this)), some (.int p1), some (.int p2), none] [] (fun r σ1 => r = r0 ∧ σ1 = σ0) := by
  unfold jf_Top_column
  refine qb_aload_n hX 0 rfl rfl ?_
  refine qb_callR hX 1 rfl cv_Top_206 (jm_Top_pouredNow (qk_GI hX) this  hthis ) (ci := 8) hthis ⟨rfl, rfl, rfl, by decide, by decide⟩ rfl (by exact Nat.le_of_ble_eq_true rfl) (fun r1 hr1 => ?_)
  refine qb_astore_n hX 2 ([some (.ref (qx_ad X this)), some (.int p1), some (.int p2), some (.ref (qx_ad X r1))]) rfl (by decide) rfl ?_
  refine qb_iload_n hX 3 rfl rfl ?_
  refine qb_iconst hX 4 (-1) rfl (by decide) ?_
  refine qb_join2 19 (fun s2 => [none, some (.int p1), some (.int p2), some (.ref (qx_ad X r1))]) (fun s2 => []) ?_ ?_
  ·
    refine qb_icne hX 5 19 rfl (by decide) ?_ ?_
    ·
      exact qb_exit (fun σ h => qj_wk (ρ' := [none, some (.int p1), some (.int p2), some (.ref (qx_ad X r1))]) (qw_n (qw_s (qw_s (qw_s (qw_0))))) h)
    ·
      refine qb_iload_n hX 6 rfl rfl ?_
      refine qb_ifne hX 7 19 rfl (by decide) ?_ ?_
      ·
        exact qb_exit (fun σ h => qj_wk (ρ' := [none, some (.int p1), some (.int p2), some (.ref (qx_ad X r1))]) (qw_n (qw_s (qw_s (qw_s (qw_0))))) h)
      ·
        refine qb_aload_n hX 8 rfl rfl ?_
        refine qb_get hX 9 rfl fl_Top_212 hr1 rfl (fun x3 => ?_)
        exact qb_iret hX 10 rfl hR (fun _ h => h)
  · intro s2
    refine qb_iload_n hX 11 rfl rfl ?_
    refine qb_iflt hX 12 41 rfl (by decide) ?_ ?_
    ·
      refine qb_iconst hX 22 (-1) rfl (by decide) ?_
      exact qb_iret hX 23 rfl hR (fun _ h => h)
    ·
      refine qb_iload_n hX 13 rfl rfl ?_
      refine qb_aload_n hX 14 rfl rfl ?_
      refine qb_get hX 15 rfl fl_Top_212 hr1 rfl (fun x4 => ?_)
      refine qb_icge hX 16 41 rfl (by decide) ?_ ?_
      ·
        refine qb_iconst hX 22 (-1) rfl (by decide) ?_
        exact qb_iret hX 23 rfl hR (fun _ h => h)
      ·
        refine qb_iload_n hX 17 rfl rfl ?_
        refine qb_iflt hX 18 41 rfl (by decide) ?_ ?_
        ·
          refine qb_iconst hX 22 (-1) rfl (by decide) ?_
          exact qb_iret hX 23 rfl hR (fun _ h => h)
        ·
          refine qb_iload_n hX 19 rfl rfl ?_
          refine qb_bipush hX 20 12 rfl (by decide) ?_
          refine qb_iclt hX 21 43 rfl (by decide) ?_ ?_
          ·
            refine qb_aload_n hX 24 rfl rfl ?_
            refine qb_iload_n hX 25 rfl rfl ?_
            refine qb_iload_n hX 26 rfl rfl ?_
            refine qb_callI hX 27 rfl cv_Top_215 (jm_Press_cell (qk_GI hX) r1 p1 p2 hr1 ) (ci := 3) hr1 ⟨rfl, rfl, rfl, by decide, by decide⟩ rfl (by exact Nat.le_of_ble_eq_true rfl) (fun x5 => ?_)
            exact qb_iret hX 28 rfl hR (fun _ h => h)
          ·
            refine qb_iconst hX 22 (-1) rfl (by decide) ?_
            exact qb_iret hX 23 rfl hR (fun _ h => h)
theorem jm_Top_column {l : Launch} {G : qm_G} (hG : qm_GI G) (this : Nat) (p1 : Int32) (p2 : Int32) (hthis : (qm_kd this).1 = 18) : qm_MI l G jy_Top_column prog_1_method_19_code 4 (some .int) 7 175 [.ref (G.1 this), .int p1, .int p2] (jf_Top_column this p1 p2) :=
  qm_metI (by decide +kernel) jd_Top_column (fun v hv => by simp only [List.mem_cons, List.not_mem_nil, or_false] at hv; rcases hv with rfl | rfl | rfl <;> rfl) (by exact Nat.le_of_ble_eq_true rfl) hG rfl (fun X hl hg hX r0 σ0 hR => by subst hl; subst hg; exact jb_Top_column hX hR this p1 p2 hthis)
def jl_Top_note : List qm_I := [(0, .aload_n 0, 1, 1), (1, .invokevirtual 206, 3, 4), (4, .astore_n 3, 1, 5), (5, .iload_n 1, 1, 6), (6, .iconst (-1), 1, 7), (7, .if_icmp .ne 15, 3, 10), (10, .iload_n 2, 1, 11), (11, .ifCond .ne 11, 3, 14), (14, .aload_n 3, 1, 15), (15, .getfield 144, 3, 18), (18, .getfield 200, 3, 21), (21, .ireturn, 1, 22), (22, .iload_n 1, 1, 23), (23, .ifCond .lt 23, 3, 26), (26, .iload_n 1, 1, 27), (27, .aload_n 3, 1, 28), (28, .getfield 144, 3, 31), (31, .getfield 200, 3, 34), (34, .if_icmp .ge 12, 3, 37), (37, .iload_n 2, 1, 38), (38, .ifCond .lt 8, 3, 41), (41, .iload_n 2, 1, 42), (42, .iconst 3, 1, 43), (43, .if_icmp .le 5, 3, 46), (46, .iconst (-1), 1, 47), (47, .ireturn, 1, 48), (48, .aload_n 3, 1, 49), (49, .getfield 144, 3, 52), (52, .getfield 222, 3, 55), (55, .iload_n 1, 1, 56), (56, .invokestatic 154, 3, 59), (59, .istore 4, 2, 61), (61, .iload_n 2, 1, 62), (62, .tableswitch 49 0 2 #[26, 29, 42], 26, 88), (88, .iload 4, 2, 90), (90, .ireturn, 1, 91), (91, .aload_n 3, 1, 92), (92, .getfield 144, 3, 95), (95, .getfield 173, 3, 98), (98, .iload 4, 2, 100), (100, .invokestatic 154, 3, 103), (103, .ireturn, 1, 104), (104, .aload_n 3, 1, 105), (105, .iload 4, 2, 107), (107, .invokevirtual 225, 3, 110), (110, .ireturn, 1, 111), (111, .aload_n 3, 1, 112), (112, .iload 4, 2, 114), (114, .invokevirtual 228, 3, 117), (117, .ireturn, 1, 118)]
theorem jd_Top_note : qm_D prog_1_method_21_code jl_Top_note := qm_D_of (by decide +kernel)
noncomputable def jf_Top_note (this : Nat) (p1 : Int32) (p2 : Int32) : qm_M Int32 :=
  mB (mK 13 (jf_Top_pouredNow this)) fun r1 =>
  mB (α := (Unit ⊕ Int32)) (
    if ¬ p1 = (-1) then
      mP (Sum.inl ())
    else
      if ¬ p2 = 0 then
        mP (Sum.inl ())
      else
        mB (mGt (qm_rf r1 1) 2) fun x3 =>
        mP (Sum.inr x3)) (Sum.elim (fun s2 =>
    if p1 < 0 then
      mP (-1)
    else
      mB (mGt (qm_rf r1 1) 2) fun x4 =>
      if x4 ≤ p1 then
        mP (-1)
      else
        if p2 < 0 then
          mP (-1)
        else
          if p2 ≤ 3 then
            mB (jf_Top_at (qm_rf (qm_rf r1 1) 19) p1) fun x5 =>
            if p2 = 0 then
              mP x5
            else
            if p2 = 1 then
              mB (jf_Top_at (qm_rf (qm_rf r1 1) 9) x5) fun x6 =>
              mP x6
            else
            if p2 = 2 then
              mB (jf_Press_linesByMark r1 x5) fun x7 =>
              mP x7
            else
            mB (jf_Press_columnsOfNote r1 x5) fun x8 =>
            mP x8
          else
            mP (-1)) mP)
set_option maxRecDepth 20000 in
set_option maxHeartbeats 4000000 in
theorem jb_Top_note {X : qm_X} (hX : qm_ok X qr_Top prog_1_method_21_code 5 7 175 jl_Top_note) {r0 : Int32} {σ0 : qm_Mem} (hR : qm_RI X r0 σ0 .int) (this : Nat) (p1 : Int32) (p2 : Int32) (hthis : (qm_kd this).1 = 18) : qm_B X (jf_Top_note this p1 p2) 0 [some (.ref (qx_ad X this)), some (.int p1), some (.int p2), none, none] [] (fun r σ1 => r = r0 ∧ σ1 = σ0) := by
  unfold jf_Top_note
  refine qb_aload_n hX 0 rfl rfl ?_
  refine qb_callR hX 1 rfl cv_Top_206 (jm_Top_pouredNow (qk_GI hX) this  hthis ) (ci := 8) hthis ⟨rfl, rfl, rfl, by decide, by decide⟩ rfl (by exact Nat.le_of_ble_eq_true rfl) (fun r1 hr1 => ?_)
  refine qb_astore_n hX 2 ([some (.ref (qx_ad X this)), some (.int p1), some (.int p2), some (.ref (qx_ad X r1)), none]) rfl (by decide) rfl ?_
  refine qb_iload_n hX 3 rfl rfl ?_
  refine qb_iconst hX 4 (-1) rfl (by decide) ?_
  refine qb_join2 22 (fun s2 => [none, some (.int p1), some (.int p2), some (.ref (qx_ad X r1)), none]) (fun s2 => []) ?_ ?_
  ·
    refine qb_icne hX 5 22 rfl (by decide) ?_ ?_
    ·
      exact qb_exit (fun σ h => qj_wk (ρ' := [none, some (.int p1), some (.int p2), some (.ref (qx_ad X r1)), none]) (qw_n (qw_s (qw_s (qw_s (qw_n (qw_0)))))) h)
    ·
      refine qb_iload_n hX 6 rfl rfl ?_
      refine qb_ifne hX 7 22 rfl (by decide) ?_ ?_
      ·
        exact qb_exit (fun σ h => qj_wk (ρ' := [none, some (.int p1), some (.int p2), some (.ref (qx_ad X r1)), none]) (qw_n (qw_s (qw_s (qw_s (qw_n (qw_0)))))) h)
      ·
        refine qb_aload_n hX 8 rfl rfl ?_
        refine qb_getR hX 9 rfl fl_Top_144 hr1 rfl ?_
        refine qb_get hX 10 rfl fl_Top_200 (kf_Press_1 hr1) rfl (fun x3 => ?_)
        exact qb_iret hX 11 rfl hR (fun _ h => h)
  · intro s2
    refine qb_iload_n hX 12 rfl rfl ?_
    refine qb_iflt hX 13 46 rfl (by decide) ?_ ?_
    ·
      refine qb_iconst hX 24 (-1) rfl (by decide) ?_
      exact qb_iret hX 25 rfl hR (fun _ h => h)
    ·
      refine qb_iload_n hX 14 rfl rfl ?_
      refine qb_aload_n hX 15 rfl rfl ?_
      refine qb_getR hX 16 rfl fl_Top_144 hr1 rfl ?_
      refine qb_get hX 17 rfl fl_Top_200 (kf_Press_1 hr1) rfl (fun x4 => ?_)
      refine qb_icge hX 18 46 rfl (by decide) ?_ ?_
      ·
        refine qb_iconst hX 24 (-1) rfl (by decide) ?_
        exact qb_iret hX 25 rfl hR (fun _ h => h)
      ·
        refine qb_iload_n hX 19 rfl rfl ?_
        refine qb_iflt hX 20 46 rfl (by decide) ?_ ?_
        ·
          refine qb_iconst hX 24 (-1) rfl (by decide) ?_
          exact qb_iret hX 25 rfl hR (fun _ h => h)
        ·
          refine qb_iload_n hX 21 rfl rfl ?_
          refine qb_iconst hX 22 3 rfl (by decide) ?_
          refine qb_icle hX 23 48 rfl (by decide) ?_ ?_
          ·
            refine qb_aload_n hX 26 rfl rfl ?_
            refine qb_getR hX 27 rfl fl_Top_144 hr1 rfl ?_
            refine qb_getR hX 28 rfl fl_Top_222 (kf_Press_1 hr1) rfl ?_
            refine qb_iload_n hX 29 rfl rfl ?_
            refine qb_calSI hX 30 rfl cv_Top_154 (jm_Top_at (qk_GI hX) (qm_rf (qm_rf r1 1) 19) p1 (kf_Flow_19 (kf_Press_1 hr1))) ⟨rfl, by decide, by decide⟩ rfl (by exact Nat.le_of_ble_eq_true rfl) (fun x5 => ?_)
            refine qb_istore hX 31 ([none, some (.int p1), some (.int p2), some (.ref (qx_ad X r1)), some (.int x5)]) rfl (by decide) rfl ?_
            refine qb_iload_n hX 32 rfl rfl ?_
            refine qb_swc 0 ?_ (fun h0 => ?_)
            ·
              refine qb_tin hX 33 88 rfl (by decide) (by decide) rfl (by decide) ?_
              refine qb_iload hX 34 rfl rfl ?_
              exact qb_iret hX 35 rfl hR (fun _ h => h)
            refine qb_swc 1 ?_ (fun h1 => ?_)
            ·
              refine qb_tin hX 33 91 rfl (by decide) (by decide) rfl (by decide) ?_
              refine qb_aload_n hX 36 rfl rfl ?_
              refine qb_getR hX 37 rfl fl_Top_144 hr1 rfl ?_
              refine qb_getR hX 38 rfl fl_Top_173 (kf_Press_1 hr1) rfl ?_
              refine qb_iload hX 39 rfl rfl ?_
              refine qb_calSI hX 40 rfl cv_Top_154 (jm_Top_at (qk_GI hX) (qm_rf (qm_rf r1 1) 9) x5 (kf_Flow_9 (kf_Press_1 hr1))) ⟨rfl, by decide, by decide⟩ rfl (by exact Nat.le_of_ble_eq_true rfl) (fun x6 => ?_)
              exact qb_iret hX 41 rfl hR (fun _ h => h)
            refine qb_swc 2 ?_ (fun h2 => ?_)
            ·
              refine qb_tin hX 33 104 rfl (by decide) (by decide) rfl (by decide) ?_
              refine qb_aload_n hX 42 rfl rfl ?_
              refine qb_iload hX 43 rfl rfl ?_
              refine qb_callI hX 44 rfl cv_Top_225 (jm_Press_linesByMark (qk_GI hX) r1 x5 hr1 ) (ci := 3) hr1 ⟨rfl, rfl, rfl, by decide, by decide⟩ rfl (by exact Nat.le_of_ble_eq_true rfl) (fun x7 => ?_)
              exact qb_iret hX 45 rfl hR (fun _ h => h)
            refine qb_tout hX 33 111 rfl (by have g0 := lv_neT (a := 0) h0 (by decide); have g1 := lv_neT (a := 1) h1 (by decide); have g2 := lv_neT (a := 2) h2 (by decide); omega) (by decide) ?_
            refine qb_aload_n hX 46 rfl rfl ?_
            refine qb_iload hX 47 rfl rfl ?_
            refine qb_callI hX 48 rfl cv_Top_228 (jm_Press_columnsOfNote (qk_GI hX) r1 x5 hr1 ) (ci := 3) hr1 ⟨rfl, rfl, rfl, by decide, by decide⟩ rfl (by exact Nat.le_of_ble_eq_true rfl) (fun x8 => ?_)
            exact qb_iret hX 49 rfl hR (fun _ h => h)
          ·
            refine qb_iconst hX 24 (-1) rfl (by decide) ?_
            exact qb_iret hX 25 rfl hR (fun _ h => h)
theorem jm_Top_note {l : Launch} {G : qm_G} (hG : qm_GI G) (this : Nat) (p1 : Int32) (p2 : Int32) (hthis : (qm_kd this).1 = 18) : qm_MI l G jy_Top_note prog_1_method_21_code 5 (some .int) 7 175 [.ref (G.1 this), .int p1, .int p2] (jf_Top_note this p1 p2) :=
  qm_metI (by decide +kernel) jd_Top_note (fun v hv => by simp only [List.mem_cons, List.not_mem_nil, or_false] at hv; rcases hv with rfl | rfl | rfl <;> rfl) (by exact Nat.le_of_ble_eq_true rfl) hG rfl (fun X hl hg hX r0 σ0 hR => by subst hl; subst hg; exact jb_Top_note hX hR this p1 p2 hthis)
def jl_Top_loose : List qm_I := [(0, .iload_n 1, 1, 1), (1, .ifCond .lt 8, 3, 4), (4, .iload_n 1, 1, 5), (5, .iconst 2, 1, 6), (6, .if_icmp .le 5, 3, 9), (9, .iconst (-1), 1, 10), (10, .ireturn, 1, 11), (11, .aload_n 0, 1, 12), (12, .invokevirtual 206, 3, 15), (15, .astore_n 2, 1, 16), (16, .aload_n 2, 1, 17), (17, .getfield 240, 3, 20), (20, .iconst (-1), 1, 21), (21, .if_icmp .eq 8, 3, 24), (24, .aload_n 2, 1, 25), (25, .invokevirtual 209, 3, 28), (28, .ireturn, 1, 29), (29, .iconst 0, 1, 30), (30, .istore_n 3, 1, 31), (31, .iconst 0, 1, 32), (32, .istore 4, 2, 34), (34, .bipush (-2), 2, 36), (36, .istore 5, 2, 38), (38, .iconst 0, 1, 39), (39, .istore 6, 2, 41), (41, .iload 6, 2, 43), (43, .aload_n 2, 1, 44), (44, .getfield 212, 3, 47), (47, .if_icmp .ge 53, 3, 50), (50, .aload_n 2, 1, 51), (51, .iload 6, 2, 53), (53, .bipush 10, 2, 55), (55, .invokevirtual 215, 3, 58), (58, .aload_n 2, 1, 59), (59, .iload 6, 2, 61), (61, .invokevirtual 243, 3, 64), (64, .isub, 1, 65), (65, .istore 7, 2, 67), (67, .iload_n 3, 1, 68), (68, .iload 7, 2, 70), (70, .iadd, 1, 71), (71, .istore_n 3, 1, 72), (72, .iload 5, 2, 74), (74, .bipush (-2), 2, 76), (76, .if_icmp .eq 10, 3, 79), (79, .iload 7, 2, 81), (81, .iload 4, 2, 83), (83, .if_icmp .le 11, 3, 86), (86, .iload 7, 2, 88), (88, .istore 4, 2, 90), (90, .iload 6, 2, 92), (92, .istore 5, 2, 94), (94, .iinc 6 1, 3, 97), (97, .goto (-56), 3, 100), (100, .iload_n 1, 1, 101), (101, .lookupswitch 32 #[(0, 27), (1, 29)], 27, 128), (128, .iload_n 3, 1, 129), (129, .ireturn, 1, 130), (130, .iload 4, 2, 132), (132, .ireturn, 1, 133), (133, .iload 5, 2, 135), (135, .ireturn, 1, 136)]
theorem jd_Top_loose : qm_D prog_1_method_23_code jl_Top_loose := qm_D_of (by decide +kernel)
noncomputable def jf_Top_loose (this : Nat) (p1 : Int32) : qm_M Int32 :=
  if p1 < 0 then
    mP (-1)
  else
    if p1 ≤ 2 then
      mB (mK 13 (jf_Top_pouredNow this)) fun r1 =>
      mB (mGt r1 9) fun x2 =>
      if x2 = (-1) then
        mB (α := Int32 × Int32 × Int32) (
          mW (S := Int32 × Int32 × Int32 × Int32) (α := Int32 × Int32 × Int32) (fun s4 =>
            mB (mGt r1 4) fun x5 =>
            if x5 ≤ s4.2.2.2 then
              mP (Sum.inr (s4.1, s4.2.1, s4.2.2.1))
            else
              mB (jf_Press_cell r1 s4.2.2.2 10) fun x6 =>
              mB (jf_Press_used r1 s4.2.2.2) fun x7 =>
              mB (mP (x6 - x7)) fun x8 =>
              mB (mP (s4.1 + x8)) fun x9 =>
              mB (α := Int32 × Int32) (
                mB (α := (Unit ⊕ (Int32 × Int32))) (
                  if s4.2.2.1 = (-2) then
                    mP (Sum.inl ())
                  else
                    if x8 ≤ s4.2.1 then
                      mP (Sum.inr (s4.2.1, s4.2.2.1))
                    else
                      mP (Sum.inl ())) (Sum.elim (fun s11 =>
                  mP (x8, s4.2.2.2)) mP)) fun s10 =>
              mB (mP (s4.2.2.2 + 1)) fun x12 =>
              mP (Sum.inl (x9, s10.1, s10.2, x12))) (0, 0, (-2), 0)) fun s3 =>
        if p1 = 0 then
          mP s3.1
        else
        if p1 = 1 then
          mP s3.2.1
        else
        mP s3.2.2
      else
        mB (jf_Press_answer r1) fun x13 =>
        mP x13
    else
      mP (-1)
set_option maxRecDepth 20000 in
set_option maxHeartbeats 4000000 in
theorem jb_Top_loose {X : qm_X} (hX : qm_ok X qr_Top prog_1_method_23_code 8 7 175 jl_Top_loose) {r0 : Int32} {σ0 : qm_Mem} (hR : qm_RI X r0 σ0 .int) (this : Nat) (p1 : Int32) (hthis : (qm_kd this).1 = 18) : qm_B X (jf_Top_loose this p1) 0 [some (.ref (qx_ad X this)), some (.int p1), none, none, none, none, none, none] [] (fun r σ1 => r = r0 ∧ σ1 = σ0) := by
  unfold jf_Top_loose
  refine qb_iload_n hX 0 rfl rfl ?_
  refine qb_iflt hX 1 9 rfl (by decide) ?_ ?_
  ·
    refine qb_iconst hX 5 (-1) rfl (by decide) ?_
    exact qb_iret hX 6 rfl hR (fun _ h => h)
  ·
    refine qb_iload_n hX 2 rfl rfl ?_
    refine qb_iconst hX 3 2 rfl (by decide) ?_
    refine qb_icle hX 4 11 rfl (by decide) ?_ ?_
    ·
      refine qb_aload_n hX 7 rfl rfl ?_
      refine qb_callR hX 8 rfl cv_Top_206 (jm_Top_pouredNow (qk_GI hX) this  hthis ) (ci := 8) hthis ⟨rfl, rfl, rfl, by decide, by decide⟩ rfl (by exact Nat.le_of_ble_eq_true rfl) (fun r1 hr1 => ?_)
      refine qb_astore_n hX 9 ([some (.ref (qx_ad X this)), some (.int p1), some (.ref (qx_ad X r1)), none, none, none, none, none]) rfl (by decide) rfl ?_
      refine qb_aload_n hX 10 rfl rfl ?_
      refine qb_get hX 11 rfl fl_Top_240 hr1 rfl (fun x2 => ?_)
      refine qb_iconst hX 12 (-1) rfl (by decide) ?_
      refine qb_iceq hX 13 29 rfl (by decide) ?_ ?_
      ·
        refine qb_iconst hX 17 0 rfl (by decide) ?_
        refine qb_istore_n hX 18 ([some (.ref (qx_ad X this)), some (.int p1), some (.ref (qx_ad X r1)), some (.int 0), none, none, none, none]) rfl (by decide) rfl ?_
        refine qb_iconst hX 19 0 rfl (by decide) ?_
        refine qb_istore hX 20 ([some (.ref (qx_ad X this)), some (.int p1), some (.ref (qx_ad X r1)), some (.int 0), some (.int 0), none, none, none]) rfl (by decide) rfl ?_
        refine qb_bipush hX 21 (-2) rfl (by decide) ?_
        refine qb_istore hX 22 ([some (.ref (qx_ad X this)), some (.int p1), some (.ref (qx_ad X r1)), some (.int 0), some (.int 0), some (.int (-2)), none, none]) rfl (by decide) rfl ?_
        refine qb_iconst hX 23 0 rfl (by decide) ?_
        refine qb_istore hX 24 ([some (.ref (qx_ad X this)), some (.int p1), some (.ref (qx_ad X r1)), some (.int 0), some (.int 0), some (.int (-2)), some (.int 0), none]) rfl (by decide) rfl ?_
        refine qb_join 100 (fun s3 => [none, some (.int p1), none, some (.int s3.1), some (.int s3.2.1), some (.int s3.2.2), none, none]) (fun s3 => []) ?_ ?_
        ·
          refine qb_loopw ((0, 0, (-2), 0)) (fun s4 => [none, some (.int p1), some (.ref (qx_ad X r1)), some (.int s4.1), some (.int s4.2.1), some (.int s4.2.2.1), some (.int s4.2.2.2), none]) (qw_n (qw_s (qw_s (qw_s (qw_s (qw_s (qw_s (qw_n (qw_0))))))))) (fun s4 => ?_)
          refine qb_iload hX 25 rfl rfl ?_
          refine qb_aload_n hX 26 rfl rfl ?_
          refine qb_get hX 27 rfl fl_Top_212 hr1 rfl (fun x5 => ?_)
          refine qb_icge hX 28 100 rfl (by decide) ?_ ?_
          ·
            exact qb_exit (fun σ h => qj_wk (ρ' := [none, some (.int p1), none, some (.int s4.1), some (.int s4.2.1), some (.int s4.2.2.1), none, none]) (qw_n (qw_s (qw_n (qw_s (qw_s (qw_s (qw_n (qw_n (qw_0))))))))) h)
          ·
            refine qb_aload_n hX 29 rfl rfl ?_
            refine qb_iload hX 30 rfl rfl ?_
            refine qb_bipush hX 31 10 rfl (by decide) ?_
            refine qb_callI hX 32 rfl cv_Top_215 (jm_Press_cell (qk_GI hX) r1 s4.2.2.2 10 hr1 ) (ci := 3) hr1 ⟨rfl, rfl, rfl, by decide, by decide⟩ rfl (by exact Nat.le_of_ble_eq_true rfl) (fun x6 => ?_)
            refine qb_aload_n hX 33 rfl rfl ?_
            refine qb_iload hX 34 rfl rfl ?_
            refine qb_callI hX 35 rfl cv_Top_243 (jm_Press_used (qk_GI hX) r1 s4.2.2.2 hr1 ) (ci := 3) hr1 ⟨rfl, rfl, rfl, by decide, by decide⟩ rfl (by exact Nat.le_of_ble_eq_true rfl) (fun x7 => ?_)
            refine qb_isub hX 36 rfl ?_
            refine qb_istoreL hX 37 (fun x8 => [none, some (.int p1), some (.ref (qx_ad X r1)), some (.int s4.1), some (.int s4.2.1), some (.int s4.2.2.1), some (.int s4.2.2.2), some (.int x8)]) rfl (by decide) (fun _ => rfl) (fun x8 => ?_)
            refine qb_iload_n hX 38 rfl rfl ?_
            refine qb_iload hX 39 rfl rfl ?_
            refine qb_iadd hX 40 rfl ?_
            refine qb_istore_nL hX 41 (fun x9 => [none, some (.int p1), some (.ref (qx_ad X r1)), some (.int x9), some (.int s4.2.1), some (.int s4.2.2.1), some (.int s4.2.2.2), some (.int x8)]) rfl (by decide) (fun _ => rfl) (fun x9 => ?_)
            refine qb_iload hX 42 rfl rfl ?_
            refine qb_bipush hX 43 (-2) rfl (by decide) ?_
            refine qb_join 94 (fun s10 => [none, some (.int p1), some (.ref (qx_ad X r1)), some (.int x9), some (.int s10.1), some (.int s10.2), some (.int s4.2.2.2), none]) (fun s10 => []) ?_ ?_
            ·
              refine qb_join2 86 (fun s11 => [none, some (.int p1), some (.ref (qx_ad X r1)), some (.int x9), none, none, some (.int s4.2.2.2), some (.int x8)]) (fun s11 => []) ?_ ?_
              ·
                refine qb_iceq hX 44 86 rfl (by decide) ?_ ?_
                ·
                  exact qb_exit (fun σ h => qj_wk (ρ' := [none, some (.int p1), some (.ref (qx_ad X r1)), some (.int x9), none, none, some (.int s4.2.2.2), some (.int x8)]) (qw_n (qw_s (qw_s (qw_s (qw_n (qw_n (qw_s (qw_s (qw_0))))))))) h)
                ·
                  refine qb_iload hX 45 rfl rfl ?_
                  refine qb_iload hX 46 rfl rfl ?_
                  refine qb_icle hX 47 94 rfl (by decide) ?_ ?_
                  ·
                    exact qb_exit (fun σ h => qj_wk (ρ' := [none, some (.int p1), some (.ref (qx_ad X r1)), some (.int x9), some (.int s4.2.1), some (.int s4.2.2.1), some (.int s4.2.2.2), none]) (qw_n (qw_s (qw_s (qw_s (qw_s (qw_s (qw_s (qw_n (qw_0))))))))) h)
                  ·
                    exact qb_exit (fun σ h => qj_wk (ρ' := [none, some (.int p1), some (.ref (qx_ad X r1)), some (.int x9), none, none, some (.int s4.2.2.2), some (.int x8)]) (qw_n (qw_s (qw_s (qw_s (qw_n (qw_n (qw_s (qw_s (qw_0))))))))) h)
              · intro s11
                refine qb_iload hX 48 rfl rfl ?_
                refine qb_istore hX 49 ([none, some (.int p1), some (.ref (qx_ad X r1)), some (.int x9), some (.int x8), none, some (.int s4.2.2.2), some (.int x8)]) rfl (by decide) rfl ?_
                refine qb_iload hX 50 rfl rfl ?_
                refine qb_istore hX 51 ([none, some (.int p1), some (.ref (qx_ad X r1)), some (.int x9), some (.int x8), some (.int s4.2.2.2), some (.int s4.2.2.2), some (.int x8)]) rfl (by decide) rfl ?_
                exact qb_exit (fun σ h => qj_wk (ρ' := [none, some (.int p1), some (.ref (qx_ad X r1)), some (.int x9), some (.int x8), some (.int s4.2.2.2), some (.int s4.2.2.2), none]) (qw_n (qw_s (qw_s (qw_s (qw_s (qw_s (qw_s (qw_n (qw_0))))))))) h)
            · intro s10
              refine qb_iinc hX 52 1 (fun x12 => [none, some (.int p1), some (.ref (qx_ad X r1)), some (.int x9), some (.int s10.1), some (.int s10.2), some (.int x12), none]) rfl (by decide) (by decide) rfl (fun _ => rfl) (fun x12 => ?_)
              exact qb_exit (fun σ h => qj_goto hX 53 rfl (by decide) (qj_wk (ρ' := [none, some (.int p1), some (.ref (qx_ad X r1)), some (.int x9), some (.int s10.1), some (.int s10.2), some (.int x12), none]) (qw_n (qw_s (qw_s (qw_s (qw_s (qw_s (qw_s (qw_n (qw_0))))))))) h))
        · intro s3
          refine qb_iload_n hX 54 rfl rfl ?_
          refine qb_swc 0 ?_ (fun h0 => ?_)
          ·
            refine qb_lsw hX 55 (off := 27) 128 rfl (by decide) (by decide) (by decide) ?_
            refine qb_iload_n hX 56 rfl rfl ?_
            exact qb_iret hX 57 rfl hR (fun _ h => h)
          refine qb_swc 1 ?_ (fun h1 => ?_)
          ·
            refine qb_lsw hX 55 (off := 29) 130 rfl (by decide) (by decide) (by decide) ?_
            refine qb_iload hX 58 rfl rfl ?_
            exact qb_iret hX 59 rfl hR (fun _ h => h)
          refine qb_lsw hX 55 (off := 32) 133 rfl (by decide) (by rw [lv_osw h0 (by decide)]; rw [lv_osw h1 (by decide)]; try rfl) (by decide) ?_
          refine qb_iload hX 60 rfl rfl ?_
          exact qb_iret hX 61 rfl hR (fun _ h => h)
      ·
        refine qb_aload_n hX 14 rfl rfl ?_
        refine qb_callI hX 15 rfl cv_Top_209 (jm_Press_answer (qk_GI hX) r1  hr1 ) (ci := 3) hr1 ⟨rfl, rfl, rfl, by decide, by decide⟩ rfl (by exact Nat.le_of_ble_eq_true rfl) (fun x13 => ?_)
        exact qb_iret hX 16 rfl hR (fun _ h => h)
    ·
      refine qb_iconst hX 5 (-1) rfl (by decide) ?_
      exact qb_iret hX 6 rfl hR (fun _ h => h)
theorem jm_Top_loose {l : Launch} {G : qm_G} (hG : qm_GI G) (this : Nat) (p1 : Int32) (hthis : (qm_kd this).1 = 18) : qm_MI l G jy_Top_loose prog_1_method_23_code 8 (some .int) 7 175 [.ref (G.1 this), .int p1] (jf_Top_loose this p1) :=
  qm_metI (by decide +kernel) jd_Top_loose (fun v hv => by simp only [List.mem_cons, List.not_mem_nil, or_false] at hv; rcases hv with rfl | rfl <;> rfl) (by exact Nat.le_of_ble_eq_true rfl) hG rfl (fun X hl hg hX r0 σ0 hR => by subst hl; subst hg; exact jb_Top_loose hX hR this p1 hthis)
def jl_Top_asks : List qm_I := [(0, .iload_n 1, 1, 1), (1, .ifCond .lt 32, 3, 4), (4, .iload_n 1, 1, 5), (5, .aload_n 0, 1, 6), (6, .invokevirtual 140, 3, 9), (9, .getfield 144, 3, 12), (12, .getfield 182, 3, 15), (15, .if_icmp .ge 18, 3, 18), (18, .iload_n 2, 1, 19), (19, .ifCond .lt 14, 3, 22), (22, .iload_n 2, 1, 23), (23, .sipush 2000, 3, 26), (26, .if_icmp .gt 7, 3, 29), (29, .iconst 1, 1, 30), (30, .goto 4, 3, 33), (33, .iconst 0, 1, 34), (34, .ireturn, 1, 35)]
theorem jd_Top_asks : qm_D prog_1_method_41_code jl_Top_asks := qm_D_of (by decide +kernel)
noncomputable def jf_Top_asks (this : Nat) (p1 : Int32) (p2 : Int32) : qm_M Int32 :=
  if p1 < 0 then
    mP 0
  else
    mB (mK 13 (jf_Top_laidOut this)) fun r1 =>
    mB (mGt (qm_rf r1 1) 1) fun x2 =>
    if x2 ≤ p1 then
      mP 0
    else
      if p2 < 0 then
        mP 0
      else
        if 2000 < p2 then
          mP 0
        else
          mP 1
set_option maxRecDepth 20000 in
set_option maxHeartbeats 4000000 in
theorem jb_Top_asks {X : qm_X} (hX : qm_ok X qr_Top prog_1_method_41_code 3 6 134 jl_Top_asks) {r0 : Int32} {σ0 : qm_Mem} (hR : qm_RI X r0 σ0 .boolean) (this : Nat) (p1 : Int32) (p2 : Int32) (hthis : (qm_kd this).1 = 18) : qm_B X (jf_Top_asks this p1 p2) 0 [some (.ref (qx_ad X this)), some (.int p1), some (.int p2)] [] (fun r σ1 => r = r0 ∧ σ1 = σ0) := by
  unfold jf_Top_asks
  refine qb_iload_n hX 0 rfl rfl ?_
  refine qb_iflt hX 1 33 rfl (by decide) ?_ ?_
  ·
    refine qb_iconst hX 15 0 rfl (by decide) ?_
    exact qb_zret1 hX 16 rfl hR (by decide) (fun _ h => h)
  ·
    refine qb_iload_n hX 2 rfl rfl ?_
    refine qb_aload_n hX 3 rfl rfl ?_
    refine qb_callR hX 4 rfl cv_Top_140 (jm_Top_laidOut (qk_GI hX) this  hthis ) (ci := 8) hthis ⟨rfl, rfl, rfl, by decide, by decide⟩ rfl (by exact Nat.le_of_ble_eq_true rfl) (fun r1 hr1 => ?_)
    refine qb_getR hX 5 rfl fl_Top_144 hr1 rfl ?_
    refine qb_get hX 6 rfl fl_Top_182 (kf_Press_1 hr1) rfl (fun x2 => ?_)
    refine qb_icge hX 7 33 rfl (by decide) ?_ ?_
    ·
      refine qb_iconst hX 15 0 rfl (by decide) ?_
      exact qb_zret1 hX 16 rfl hR (by decide) (fun _ h => h)
    ·
      refine qb_iload_n hX 8 rfl rfl ?_
      refine qb_iflt hX 9 33 rfl (by decide) ?_ ?_
      ·
        refine qb_iconst hX 15 0 rfl (by decide) ?_
        exact qb_zret1 hX 16 rfl hR (by decide) (fun _ h => h)
      ·
        refine qb_iload_n hX 10 rfl rfl ?_
        refine qb_sipush hX 11 2000 rfl (by decide) ?_
        refine qb_icgt hX 12 33 rfl (by decide) ?_ ?_
        ·
          refine qb_iconst hX 15 0 rfl (by decide) ?_
          exact qb_zret1 hX 16 rfl hR (by decide) (fun _ h => h)
        ·
          refine qb_iconst hX 13 1 rfl (by decide) ?_
          refine qb_goto hX 14 (tgt := 34) rfl (by decide) ?_
          exact qb_zret1 hX 16 rfl hR (by decide) (fun _ h => h)
theorem jm_Top_asks {l : Launch} {G : qm_G} (hG : qm_GI G) (this : Nat) (p1 : Int32) (p2 : Int32) (hthis : (qm_kd this).1 = 18) : qm_MI l G jy_Top_asks prog_1_method_41_code 3 (some .boolean) 6 134 [.ref (G.1 this), .int p1, .int p2] (jf_Top_asks this p1 p2) :=
  qm_metI (by decide +kernel) jd_Top_asks (fun v hv => by simp only [List.mem_cons, List.not_mem_nil, or_false] at hv; rcases hv with rfl | rfl | rfl <;> rfl) (by exact Nat.le_of_ble_eq_true rfl) hG rfl (fun X hl hg hX r0 σ0 hR => by subst hl; subst hg; exact jb_Top_asks hX hR this p1 p2 hthis)
def jl_Top_least : List qm_I := [(0, .aload_n 0, 1, 1), (1, .iload_n 1, 1, 2), (2, .iconst 0, 1, 3), (3, .invokevirtual 264, 3, 6), (6, .ifCond .ne 5, 3, 9), (9, .iconst (-1), 1, 10), (10, .ireturn, 1, 11), (11, .aload_n 0, 1, 12), (12, .getfield 48, 3, 15), (15, .getfield 267, 3, 18), (18, .iload_n 1, 1, 19), (19, .invokevirtual 277, 3, 22), (22, .ireturn, 1, 23)]
theorem jd_Top_least : qm_D prog_1_method_26_code jl_Top_least := qm_D_of (by decide +kernel)
noncomputable def jf_Top_least (this : Nat) (p1 : Int32) : qm_M Int32 :=
  mB (jf_Top_asks this p1 0) fun x1 =>
  if ¬ x1 = 0 then
    mB (jf_Fitter_leastOf (qm_rf (qm_rf this 6) 2) p1) fun x2 =>
    mP x2
  else
    mP (-1)
set_option maxRecDepth 20000 in
set_option maxHeartbeats 4000000 in
theorem jb_Top_least {X : qm_X} (hX : qm_ok X qr_Top prog_1_method_26_code 2 7 156 jl_Top_least) {r0 : Int32} {σ0 : qm_Mem} (hR : qm_RI X r0 σ0 .int) (this : Nat) (p1 : Int32) (hthis : (qm_kd this).1 = 18) : qm_B X (jf_Top_least this p1) 0 [some (.ref (qx_ad X this)), some (.int p1)] [] (fun r σ1 => r = r0 ∧ σ1 = σ0) := by
  unfold jf_Top_least
  refine qb_aload_n hX 0 rfl rfl ?_
  refine qb_iload_n hX 1 rfl rfl ?_
  refine qb_iconst hX 2 0 rfl (by decide) ?_
  refine qb_callI hX 3 rfl cv_Top_264 (jm_Top_asks (qk_GI hX) this p1 0 hthis ) (ci := 8) hthis ⟨rfl, rfl, rfl, by decide, by decide⟩ rfl (by exact Nat.le_of_ble_eq_true rfl) (fun x1 => ?_)
  refine qb_ifne hX 4 11 rfl (by decide) ?_ ?_
  ·
    refine qb_aload_n hX 7 rfl rfl ?_
    refine qb_getR hX 8 rfl fl_Top_48 hthis rfl ?_
    refine qb_getR hX 9 rfl fl_Top_267 (kf_Top_6 hthis) rfl ?_
    refine qb_iload_n hX 10 rfl rfl ?_
    refine qb_callI hX 11 rfl cv_Top_277 (jm_Fitter_leastOf (qk_GI hX) (qm_rf (qm_rf this 6) 2) p1 (kf_Press_2 (kf_Top_6 hthis)) ) (ci := 0) (kf_Press_2 (kf_Top_6 hthis)) ⟨rfl, rfl, rfl, by decide, by decide⟩ rfl (by exact Nat.le_of_ble_eq_true rfl) (fun x2 => ?_)
    exact qb_iret hX 12 rfl hR (fun _ h => h)
  ·
    refine qb_iconst hX 5 (-1) rfl (by decide) ?_
    exact qb_iret hX 6 rfl hR (fun _ h => h)
theorem jm_Top_least {l : Launch} {G : qm_G} (hG : qm_GI G) (this : Nat) (p1 : Int32) (hthis : (qm_kd this).1 = 18) : qm_MI l G jy_Top_least prog_1_method_26_code 2 (some .int) 7 156 [.ref (G.1 this), .int p1] (jf_Top_least this p1) :=
  qm_metI (by decide +kernel) jd_Top_least (fun v hv => by simp only [List.mem_cons, List.not_mem_nil, or_false] at hv; rcases hv with rfl | rfl <;> rfl) (by exact Nat.le_of_ble_eq_true rfl) hG rfl (fun X hl hg hX r0 σ0 hR => by subst hl; subst hg; exact jb_Top_least hX hR this p1 hthis)
