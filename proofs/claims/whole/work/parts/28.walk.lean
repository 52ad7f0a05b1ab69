def jl_Model_begins : List qm_I := [(0, .iconst 0, 1, 1), (1, .istore_n 1, 1, 2), (2, .iload_n 1, 1, 3), (3, .sipush 265, 3, 6), (6, .if_icmp .ge 13, 3, 9), (9, .aload_n 0, 1, 10), (10, .iload_n 1, 1, 11), (11, .iconst 0, 1, 12), (12, .iastore, 1, 13), (13, .iinc 1 1, 3, 16), (16, .goto (-14), 3, 19), (19, .aload_n 0, 1, 20), (20, .iconst 0, 1, 21), (21, .iconst 2, 1, 22), (22, .iastore, 1, 23), (23, .aload_n 0, 1, 24), (24, .iconst 1, 1, 25), (25, .bipush 60, 2, 27), (27, .iastore, 1, 28), (28, .aload_n 0, 1, 29), (29, .iconst 2, 1, 30), (30, .iconst 2, 1, 31), (31, .iastore, 1, 32), (32, .aload_n 0, 1, 33), (33, .iconst 3, 1, 34), (34, .iconst 2, 1, 35), (35, .iastore, 1, 36), (36, .aload_n 0, 1, 37), (37, .iconst 4, 1, 38), (38, .iconst 2, 1, 39), (39, .iastore, 1, 40), (40, .aload_n 0, 1, 41), (41, .iconst 5, 1, 42), (42, .iconst 1, 1, 43), (43, .iastore, 1, 44), (44, .aload_n 0, 1, 45), (45, .bipush 6, 2, 47), (47, .iconst 1, 1, 48), (48, .iastore, 1, 49), (49, .return_, 1, 50)]
theorem jd_Model_begins : qm_D prog_11_method_2_code jl_Model_begins := qm_D_of (by decide +kernel)
noncomputable def jf_Model_begins (p1 : Nat) : qm_M Unit :=
  mB (α := Unit) (
    mW (S := Int32) (α := Unit) (fun s2 =>
      if 265 ≤ s2 then
        mP (Sum.inr ())
      else
        mB (mSt p1 s2 0) fun _ =>
        mB (mP (s2 + 1)) fun x3 =>
        mP (Sum.inl x3)) 0) fun s1 =>
  mB (mSt p1 0 2) fun _ =>
  mB (mSt p1 1 60) fun _ =>
  mB (mSt p1 2 2) fun _ =>
  mB (mSt p1 3 2) fun _ =>
  mB (mSt p1 4 2) fun _ =>
  mB (mSt p1 5 1) fun _ =>
  mB (mSt p1 6 1) fun _ =>
  mP ()
set_option maxRecDepth 20000 in
set_option maxHeartbeats 4000000 in
theorem jb_Model_begins {X : qm_X} (hX : qm_ok X qr_Model prog_11_method_2_code 2 0 0 jl_Model_begins) {σ0 : qm_Mem} (hR : qm_RV X σ0) (p1 : Nat) (hp1 : (qm_kd p1).1 = 1) : qm_B X (jf_Model_begins p1) 0 [some (.ref (qx_ad X p1)), none] [] (fun _ σ1 => σ1 = σ0) := by
  unfold jf_Model_begins
  refine qb_iconst hX 0 0 rfl (by decide) ?_
  refine qb_istore_n hX 1 ([some (.ref (qx_ad X p1)), some (.int 0)]) rfl (by decide) rfl ?_
  refine qb_join 19 (fun s1 => [some (.ref (qx_ad X p1)), none]) (fun s1 => []) ?_ ?_
  ·
    refine qb_loopw (0) (fun s2 => [some (.ref (qx_ad X p1)), some (.int s2)]) (qw_s (qw_s (qw_0))) (fun s2 => ?_)
    refine qb_iload_n hX 2 rfl rfl ?_
    refine qb_sipush hX 3 265 rfl (by decide) ?_
    refine qb_icge hX 4 19 rfl (by decide) ?_ ?_
    ·
      exact qb_exit (fun σ h => qj_wk (ρ' := [some (.ref (qx_ad X p1)), none]) (qw_s (qw_n (qw_0))) h)
    ·
      refine qb_aload_n hX 5 rfl rfl ?_
      refine qb_iload_n hX 6 rfl rfl ?_
      refine qb_iconst hX 7 0 rfl (by decide) ?_
      refine qb_iast hX 8 rfl hp1 ?_
      refine qb_iinc hX 9 1 (fun x3 => [some (.ref (qx_ad X p1)), some (.int x3)]) rfl (by decide) (by decide) rfl (fun _ => rfl) (fun x3 => ?_)
      exact qb_exit (fun σ h => qj_goto hX 10 rfl (by decide) (qj_wk (ρ' := [some (.ref (qx_ad X p1)), some (.int x3)]) (qw_s (qw_s (qw_0))) h))
  · intro s1
    refine qb_aload_n hX 11 rfl rfl ?_
    refine qb_iconst hX 12 0 rfl (by decide) ?_
    refine qb_iconst hX 13 2 rfl (by decide) ?_
    refine qb_iast hX 14 rfl hp1 ?_
    refine qb_aload_n hX 15 rfl rfl ?_
    refine qb_iconst hX 16 1 rfl (by decide) ?_
    refine qb_bipush hX 17 60 rfl (by decide) ?_
    refine qb_iast hX 18 rfl hp1 ?_
    refine qb_aload_n hX 19 rfl rfl ?_
    refine qb_iconst hX 20 2 rfl (by decide) ?_
    refine qb_iconst hX 21 2 rfl (by decide) ?_
    refine qb_iast hX 22 rfl hp1 ?_
    refine qb_aload_n hX 23 rfl rfl ?_
    refine qb_iconst hX 24 3 rfl (by decide) ?_
    refine qb_iconst hX 25 2 rfl (by decide) ?_
    refine qb_iast hX 26 rfl hp1 ?_
    refine qb_aload_n hX 27 rfl rfl ?_
    refine qb_iconst hX 28 4 rfl (by decide) ?_
    refine qb_iconst hX 29 2 rfl (by decide) ?_
    refine qb_iast hX 30 rfl hp1 ?_
    refine qb_aload_n hX 31 rfl rfl ?_
    refine qb_iconst hX 32 5 rfl (by decide) ?_
    refine qb_iconst hX 33 1 rfl (by decide) ?_
    refine qb_iast hX 34 rfl hp1 ?_
    refine qb_aload_n hX 35 rfl rfl ?_
    refine qb_bipush hX 36 6 rfl (by decide) ?_
    refine qb_iconst hX 37 1 rfl (by decide) ?_
    refine qb_iast hX 38 rfl hp1 ?_
    exact qb_vret hX 39 rfl hR (fun _ h => h)
theorem jm_Model_begins {l : Launch} {G : qm_G} (hG : qm_GI G) (p1 : Nat) (hp1 : (qm_kd p1).1 = 1) : qm_MV l G jy_Model_begins prog_11_method_2_code 2 0 0 [.ref (G.1 p1)] (jf_Model_begins p1) :=
  qm_metV (by decide +kernel) jd_Model_begins (fun v hv => by simp only [List.mem_cons, List.not_mem_nil, or_false] at hv; rcases hv with rfl <;> rfl) (by exact Nat.le_of_ble_eq_true rfl) hG (fun X hl hg hX σ0 hR => by subst hl; subst hg; exact jb_Model_begins hX hR p1 hp1)
def jl_Model_lowOf : List qm_I := [(0, .iload_n 0, 1, 1), (1, .iconst 1, 1, 2), (2, .if_icmp .ne 8, 3, 5), (5, .bipush 10, 2, 7), (7, .goto 25, 3, 10), (10, .iload_n 0, 1, 11), (11, .iconst 4, 1, 12), (12, .if_icmp .eq 15, 3, 15), (15, .iload_n 0, 1, 16), (16, .bipush 6, 2, 18), (18, .if_icmp .eq 9, 3, 21), (21, .iload_n 0, 1, 22), (22, .bipush 7, 2, 24), (24, .if_icmp .ne 7, 3, 27), (27, .iconst 0, 1, 28), (28, .goto 4, 3, 31), (31, .iconst 1, 1, 32), (32, .ireturn, 1, 33)]
theorem jd_Model_lowOf : qm_D prog_11_method_4_code jl_Model_lowOf := qm_D_of (by decide +kernel)
noncomputable def jf_Model_lowOf (p1 : Int32) : qm_M Int32 :=
  if ¬ p1 = 1 then
    if p1 = 4 then
      mP 0
    else
      if p1 = 6 then
        mP 0
      else
        if ¬ p1 = 7 then
          mP 1
        else
          mP 0
  else
    mP 10
set_option maxRecDepth 20000 in
set_option maxHeartbeats 4000000 in
theorem jb_Model_lowOf {X : qm_X} (hX : qm_ok X qr_Model prog_11_method_4_code 1 0 0 jl_Model_lowOf) {r0 : Int32} {σ0 : qm_Mem} (hR : qm_RI X r0 σ0 .int) (p1 : Int32)  : qm_B X (jf_Model_lowOf p1) 0 [some (.int p1)] [] (fun r σ1 => r = r0 ∧ σ1 = σ0) := by
  unfold jf_Model_lowOf
  refine qb_iload_n hX 0 rfl rfl ?_
  refine qb_iconst hX 1 1 rfl (by decide) ?_
  refine qb_icne hX 2 10 rfl (by decide) ?_ ?_
  ·
    refine qb_iload_n hX 5 rfl rfl ?_
    refine qb_iconst hX 6 4 rfl (by decide) ?_
    refine qb_iceq hX 7 27 rfl (by decide) ?_ ?_
    ·
      refine qb_iconst hX 14 0 rfl (by decide) ?_
      refine qb_goto hX 15 (tgt := 32) rfl (by decide) ?_
      exact qb_iret hX 17 rfl hR (fun _ h => h)
    ·
      refine qb_iload_n hX 8 rfl rfl ?_
      refine qb_bipush hX 9 6 rfl (by decide) ?_
      refine qb_iceq hX 10 27 rfl (by decide) ?_ ?_
      ·
        refine qb_iconst hX 14 0 rfl (by decide) ?_
        refine qb_goto hX 15 (tgt := 32) rfl (by decide) ?_
        exact qb_iret hX 17 rfl hR (fun _ h => h)
      ·
        refine qb_iload_n hX 11 rfl rfl ?_
        refine qb_bipush hX 12 7 rfl (by decide) ?_
        refine qb_icne hX 13 31 rfl (by decide) ?_ ?_
        ·
          refine qb_iconst hX 16 1 rfl (by decide) ?_
          exact qb_iret hX 17 rfl hR (fun _ h => h)
        ·
          refine qb_iconst hX 14 0 rfl (by decide) ?_
          refine qb_goto hX 15 (tgt := 32) rfl (by decide) ?_
          exact qb_iret hX 17 rfl hR (fun _ h => h)
  ·
    refine qb_bipush hX 3 10 rfl (by decide) ?_
    refine qb_goto hX 4 (tgt := 32) rfl (by decide) ?_
    exact qb_iret hX 17 rfl hR (fun _ h => h)
theorem jm_Model_lowOf {l : Launch} {G : qm_G} (hG : qm_GI G) (p1 : Int32)  : qm_MI l G jy_Model_lowOf prog_11_method_4_code 1 (some .int) 0 0 [.int p1] (jf_Model_lowOf p1) :=
  qm_metI (by decide +kernel) jd_Model_lowOf (fun v hv => by simp only [List.mem_cons, List.not_mem_nil, or_false] at hv; rcases hv with rfl <;> rfl) (by exact Nat.le_of_ble_eq_true rfl) hG rfl (fun X hl hg hX r0 σ0 hR => by subst hl; subst hg; exact jb_Model_lowOf hX hR p1 )
def jl_Model_highOf : List qm_I := [(0, .iload_n 0, 1, 1), (1, .tableswitch 58 0 7 #[47, 49, 58, 58, 58, 53, 58, 55], 47, 48), (48, .iconst 5, 1, 49), (49, .ireturn, 1, 50), (50, .sipush 400, 3, 53), (53, .ireturn, 1, 54), (54, .iconst 3, 1, 55), (55, .ireturn, 1, 56), (56, .bipush 60, 2, 58), (58, .ireturn, 1, 59), (59, .bipush 9, 2, 61), (61, .ireturn, 1, 62)]
theorem jd_Model_highOf : qm_D prog_11_method_5_code jl_Model_highOf := qm_D_of (by decide +kernel)
noncomputable def jf_Model_highOf (p1 : Int32) : qm_M Int32 :=
  if p1 = 0 then
    mP 5
  else
  if p1 = 1 then
    mP 400
  else
  if p1 = 2 then
    mP 9
  else
  if p1 = 3 then
    mP 9
  else
  if p1 = 4 then
    mP 9
  else
  if p1 = 5 then
    mP 3
  else
  if p1 = 6 then
    mP 9
  else
  if p1 = 7 then
    mP 60
  else
  mP 9
set_option maxRecDepth 20000 in
set_option maxHeartbeats 4000000 in
theorem jb_Model_highOf {X : qm_X} (hX : qm_ok X qr_Model prog_11_method_5_code 1 0 0 jl_Model_highOf) {r0 : Int32} {σ0 : qm_Mem} (hR : qm_RI X r0 σ0 .int) (p1 : Int32)  : qm_B X (jf_Model_highOf p1) 0 [some (.int p1)] [] (fun r σ1 => r = r0 ∧ σ1 = σ0) := by
  unfold jf_Model_highOf
  refine qb_iload_n hX 0 rfl rfl ?_
  refine qb_swc 0 ?_ (fun h0 => ?_)
  ·
    refine qb_tin hX 1 48 rfl (by decide) (by decide) rfl (by decide) ?_
    refine qb_iconst hX 2 5 rfl (by decide) ?_
    exact qb_iret hX 3 rfl hR (fun _ h => h)
  refine qb_swc 1 ?_ (fun h1 => ?_)
  ·
    refine qb_tin hX 1 50 rfl (by decide) (by decide) rfl (by decide) ?_
    refine qb_sipush hX 4 400 rfl (by decide) ?_
    exact qb_iret hX 5 rfl hR (fun _ h => h)
  refine qb_swc 2 ?_ (fun h2 => ?_)
  ·
    refine qb_tin hX 1 59 rfl (by decide) (by decide) rfl (by decide) ?_
    refine qb_bipush hX 10 9 rfl (by decide) ?_
    exact qb_iret hX 11 rfl hR (fun _ h => h)
  refine qb_swc 3 ?_ (fun h3 => ?_)
  ·
    refine qb_tin hX 1 59 rfl (by decide) (by decide) rfl (by decide) ?_
    refine qb_bipush hX 10 9 rfl (by decide) ?_
    exact qb_iret hX 11 rfl hR (fun _ h => h)
  refine qb_swc 4 ?_ (fun h4 => ?_)
  ·
    refine qb_tin hX 1 59 rfl (by decide) (by decide) rfl (by decide) ?_
    refine qb_bipush hX 10 9 rfl (by decide) ?_
    exact qb_iret hX 11 rfl hR (fun _ h => h)
  refine qb_swc 5 ?_ (fun h5 => ?_)
  ·
    refine qb_tin hX 1 54 rfl (by decide) (by decide) rfl (by decide) ?_
    refine qb_iconst hX 6 3 rfl (by decide) ?_
    exact qb_iret hX 7 rfl hR (fun _ h => h)
  refine qb_swc 6 ?_ (fun h6 => ?_)
  ·
    refine qb_tin hX 1 59 rfl (by decide) (by decide) rfl (by decide) ?_
    refine qb_bipush hX 10 9 rfl (by decide) ?_
    exact qb_iret hX 11 rfl hR (fun _ h => h)
  refine qb_swc 7 ?_ (fun h7 => ?_)
  ·
    refine qb_tin hX 1 56 rfl (by decide) (by decide) rfl (by decide) ?_
    refine qb_bipush hX 8 60 rfl (by decide) ?_
    exact qb_iret hX 9 rfl hR (fun _ h => h)
  refine qb_tout hX 1 59 rfl (by have g0 := lv_neT (a := 0) h0 (by decide); have g1 := lv_neT (a := 1) h1 (by decide); have g2 := lv_neT (a := 2) h2 (by decide); have g3 := lv_neT (a := 3) h3 (by decide); have g4 := lv_neT (a := 4) h4 (by decide); have g5 := lv_neT (a := 5) h5 (by decide); have g6 := lv_neT (a := 6) h6 (by decide); have g7 := lv_neT (a := 7) h7 (by decide); omega) (by decide) ?_
  refine qb_bipush hX 10 9 rfl (by decide) ?_
  exact qb_iret hX 11 rfl hR (fun _ h => h)
theorem jm_Model_highOf {l : Launch} {G : qm_G} (hG : qm_GI G) (p1 : Int32)  : qm_MI l G jy_Model_highOf prog_11_method_5_code 1 (some .int) 0 0 [.int p1] (jf_Model_highOf p1) :=
  qm_metI (by decide +kernel) jd_Model_highOf (fun v hv => by simp only [List.mem_cons, List.not_mem_nil, or_false] at hv; rcases hv with rfl <;> rfl) (by exact Nat.le_of_ble_eq_true rfl) hG rfl (fun X hl hg hX r0 σ0 hR => by subst hl; subst hg; exact jb_Model_highOf hX hR p1 )
def jl_Model_isSetting : List qm_I := [(0, .iload_n 0, 1, 1), (1, .i2l, 1, 2), (2, .lconst 0, 1, 3), (3, .ldc2_w 127, 3, 6), (6, .invokestatic 129, 3, 9), (9, .ifCond .eq 25, 3, 12), (12, .iload_n 1, 1, 13), (13, .i2l, 1, 14), (14, .iload_n 0, 1, 15), (15, .invokestatic 133, 3, 18), (18, .i2l, 1, 19), (19, .iload_n 0, 1, 20), (20, .invokestatic 137, 3, 23), (23, .i2l, 1, 24), (24, .invokestatic 129, 3, 27), (27, .ifCond .eq 7, 3, 30), (30, .iconst 1, 1, 31), (31, .goto 4, 3, 34), (34, .iconst 0, 1, 35), (35, .ireturn, 1, 36)]
theorem jd_Model_isSetting : qm_D prog_11_method_6_code jl_Model_isSetting := qm_D_of (by decide +kernel)
noncomputable def jf_Model_isSetting (p1 : Int32) (p2 : Int32) : qm_M Int32 :=
  mB (jf_Model_in (Int32.toInt64 p1) (0 : Int64) (7 : Int64)) fun x1 =>
  if x1 = 0 then
    mP 0
  else
    mB (jf_Model_lowOf p1) fun x2 =>
    mB (jf_Model_highOf p1) fun x3 =>
    mB (jf_Model_in (Int32.toInt64 p2) (Int32.toInt64 x2) (Int32.toInt64 x3)) fun x4 =>
    if x4 = 0 then
      mP 0
    else
      mP 1
set_option maxRecDepth 20000 in
set_option maxHeartbeats 4000000 in
theorem jb_Model_isSetting {X : qm_X} (hX : qm_ok X qr_Model prog_11_method_6_code 2 1 25 jl_Model_isSetting) {r0 : Int32} {σ0 : qm_Mem} (hR : qm_RI X r0 σ0 .boolean) (p1 : Int32) (p2 : Int32)  : qm_B X (jf_Model_isSetting p1 p2) 0 [some (.int p1), some (.int p2)] [] (fun r σ1 => r = r0 ∧ σ1 = σ0) := by
  unfold jf_Model_isSetting
  refine qb_iload_n hX 0 rfl rfl ?_
  refine qb_i2l hX 1 rfl ?_
  refine qb_lconst hX 2 0 rfl (by decide) ?_
  refine qb_ldc2w hX 3 7 rfl kl_Model_127 ?_
  refine qb_calSI hX 4 rfl cv_Model_129 (jm_Model_in (qk_GI hX) (Int32.toInt64 p1) (0 : Int64) (7 : Int64) ) ⟨rfl, by decide, by decide⟩ rfl (by exact Nat.le_of_ble_eq_true rfl) (fun x1 => ?_)
  refine qb_ifeq hX 5 34 rfl (by decide) ?_ ?_
  ·
    refine qb_iconst hX 18 0 rfl (by decide) ?_
    exact qb_zret1 hX 19 rfl hR (by decide) (fun _ h => h)
  ·
    refine qb_iload_n hX 6 rfl rfl ?_
    refine qb_i2l hX 7 rfl ?_
    refine qb_iload_n hX 8 rfl rfl ?_
    refine qb_calSI hX 9 rfl cv_Model_133 (jm_Model_lowOf (qk_GI hX) p1 ) ⟨rfl, by decide, by decide⟩ rfl (by exact Nat.le_of_ble_eq_true rfl) (fun x2 => ?_)
    refine qb_i2l hX 10 rfl ?_
    refine qb_iload_n hX 11 rfl rfl ?_
    refine qb_calSI hX 12 rfl cv_Model_137 (jm_Model_highOf (qk_GI hX) p1 ) ⟨rfl, by decide, by decide⟩ rfl (by exact Nat.le_of_ble_eq_true rfl) (fun x3 => ?_)
    refine qb_i2l hX 13 rfl ?_
    refine qb_calSI hX 14 rfl cv_Model_129 (jm_Model_in (qk_GI hX) (Int32.toInt64 p2) (Int32.toInt64 x2) (Int32.toInt64 x3) ) ⟨rfl, by decide, by decide⟩ rfl (by exact Nat.le_of_ble_eq_true rfl) (fun x4 => ?_)
    refine qb_ifeq hX 15 34 rfl (by decide) ?_ ?_
    ·
      refine qb_iconst hX 18 0 rfl (by decide) ?_
      exact qb_zret1 hX 19 rfl hR (by decide) (fun _ h => h)
    ·
      refine qb_iconst hX 16 1 rfl (by decide) ?_
      refine qb_goto hX 17 (tgt := 35) rfl (by decide) ?_
      exact qb_zret1 hX 19 rfl hR (by decide) (fun _ h => h)
theorem jm_Model_isSetting {l : Launch} {G : qm_G} (hG : qm_GI G) (p1 : Int32) (p2 : Int32)  : qm_MI l G jy_Model_isSetting prog_11_method_6_code 2 (some .boolean) 1 25 [.int p1, .int p2] (jf_Model_isSetting p1 p2) :=
  qm_metI (by decide +kernel) jd_Model_isSetting (fun v hv => by simp only [List.mem_cons, List.not_mem_nil, or_false] at hv; rcases hv with rfl | rfl <;> rfl) (by exact Nat.le_of_ble_eq_true rfl) hG rfl (fun X hl hg hX r0 σ0 hR => by subst hl; subst hg; exact jb_Model_isSetting hX hR p1 p2 )
def jl_Model_blocks : List qm_I := [(0, .aload_n 0, 1, 1), (1, .getfield 7, 3, 4), (4, .bipush 8, 2, 6), (6, .iaload, 1, 7), (7, .ireturn, 1, 8)]
theorem jd_Model_blocks : qm_D prog_11_method_7_code jl_Model_blocks := qm_D_of (by decide +kernel)
noncomputable def jf_Model_blocks (this : Nat) : qm_M Int32 :=
  mB (mLd (qm_rf this 0) 8) fun x1 =>
  mP x1
set_option maxRecDepth 20000 in
set_option maxHeartbeats 4000000 in
theorem jb_Model_blocks {X : qm_X} (hX : qm_ok X qr_Model prog_11_method_7_code 1 0 0 jl_Model_blocks) {r0 : Int32} {σ0 : qm_Mem} (hR : qm_RI X r0 σ0 .int) (this : Nat) (hthis : (qm_kd this).1 = 19) : qm_B X (jf_Model_blocks this) 0 [some (.ref (qx_ad X this))] [] (fun r σ1 => r = r0 ∧ σ1 = σ0) := by
  unfold jf_Model_blocks
  refine qb_aload_n hX 0 rfl rfl ?_
  refine qb_getR hX 1 rfl fl_Model_7 hthis rfl ?_
  refine qb_bipush hX 2 8 rfl (by decide) ?_
  refine qb_iald hX 3 rfl (kf_Model_0 hthis) (fun x1 => ?_)
  exact qb_iret hX 4 rfl hR (fun _ h => h)
theorem jm_Model_blocks {l : Launch} {G : qm_G} (hG : qm_GI G) (this : Nat) (hthis : (qm_kd this).1 = 19) : qm_MI l G jy_Model_blocks prog_11_method_7_code 1 (some .int) 0 0 [.ref (G.1 this)] (jf_Model_blocks this) :=
  qm_metI (by decide +kernel) jd_Model_blocks (fun v hv => by simp only [List.mem_cons, List.not_mem_nil, or_false] at hv; rcases hv with rfl <;> rfl) (by exact Nat.le_of_ble_eq_true rfl) hG rfl (fun X hl hg hX r0 σ0 hR => by subst hl; subst hg; exact jb_Model_blocks hX hR this hthis)
def jl_Model_of : List qm_I := [(0, .aload_n 0, 1, 1), (1, .getfield 7, 3, 4), (4, .bipush 9, 2, 6), (6, .bipush 16, 2, 8), (8, .iload_n 1, 1, 9), (9, .imul, 1, 10), (10, .iadd, 1, 11), (11, .iload_n 2, 1, 12), (12, .iadd, 1, 13), (13, .iaload, 1, 14), (14, .ireturn, 1, 15)]
theorem jd_Model_of : qm_D prog_11_method_8_code jl_Model_of := qm_D_of (by decide +kernel)
noncomputable def jf_Model_of (this : Nat) (p1 : Int32) (p2 : Int32) : qm_M Int32 :=
  mB (mLd (qm_rf this 0) ((9 + (16 * p1)) + p2)) fun x1 =>
  mP x1
set_option maxRecDepth 20000 in
set_option maxHeartbeats 4000000 in
theorem jb_Model_of {X : qm_X} (hX : qm_ok X qr_Model prog_11_method_8_code 3 0 0 jl_Model_of) {r0 : Int32} {σ0 : qm_Mem} (hR : qm_RI X r0 σ0 .int) (this : Nat) (p1 : Int32) (p2 : Int32) (hthis : (qm_kd this).1 = 19) : qm_B X (jf_Model_of this p1 p2) 0 [some (.ref (qx_ad X this)), some (.int p1), some (.int p2)] [] (fun r σ1 => r = r0 ∧ σ1 = σ0) := by
  unfold jf_Model_of
  refine qb_aload_n hX 0 rfl rfl ?_
  refine qb_getR hX 1 rfl fl_Model_7 hthis rfl ?_
  refine qb_bipush hX 2 9 rfl (by decide) ?_
  refine qb_bipush hX 3 16 rfl (by decide) ?_
  refine qb_iload_n hX 4 rfl rfl ?_
  refine qb_imul hX 5 rfl ?_
  refine qb_iadd hX 6 rfl ?_
  refine qb_iload_n hX 7 rfl rfl ?_
  refine qb_iadd hX 8 rfl ?_
  refine qb_iald hX 9 rfl (kf_Model_0 hthis) (fun x1 => ?_)
  exact qb_iret hX 10 rfl hR (fun _ h => h)
theorem jm_Model_of {l : Launch} {G : qm_G} (hG : qm_GI G) (this : Nat) (p1 : Int32) (p2 : Int32) (hthis : (qm_kd this).1 = 19) : qm_MI l G jy_Model_of prog_11_method_8_code 3 (some .int) 0 0 [.ref (G.1 this), .int p1, .int p2] (jf_Model_of this p1 p2) :=
  qm_metI (by decide +kernel) jd_Model_of (fun v hv => by simp only [List.mem_cons, List.not_mem_nil, or_false] at hv; rcases hv with rfl | rfl | rfl <;> rfl) (by exact Nat.le_of_ble_eq_true rfl) hG rfl (fun X hl hg hX r0 σ0 hR => by subst hl; subst hg; exact jb_Model_of hX hR this p1 p2 hthis)
def jl_Model_isBlock : List qm_I := [(0, .iload_n 1, 1, 1), (1, .i2l, 1, 2), (2, .lconst 0, 1, 3), (3, .aload_n 0, 1, 4), (4, .invokevirtual 140, 3, 7), (7, .iconst 1, 1, 8), (8, .isub, 1, 9), (9, .i2l, 1, 10), (10, .invokestatic 129, 3, 13), (13, .ireturn, 1, 14)]
theorem jd_Model_isBlock : qm_D prog_11_method_9_code jl_Model_isBlock := qm_D_of (by decide +kernel)
noncomputable def jf_Model_isBlock (this : Nat) (p1 : Int32) : qm_M Int32 :=
  mB (jf_Model_blocks this) fun x1 =>
  mB (jf_Model_in (Int32.toInt64 p1) (0 : Int64) (Int32.toInt64 (x1 - 1))) fun x2 =>
  mB (mZ x2) fun x3 => mP x3
set_option maxRecDepth 20000 in
set_option maxHeartbeats 4000000 in
theorem jb_Model_isBlock {X : qm_X} (hX : qm_ok X qr_Model prog_11_method_9_code 2 1 25 jl_Model_isBlock) {r0 : Int32} {σ0 : qm_Mem} (hR : qm_RI X r0 σ0 .boolean) (this : Nat) (p1 : Int32) (hthis : (qm_kd this).1 = 19) : qm_B X (jf_Model_isBlock this p1) 0 [some (.ref (qx_ad X this)), some (.int p1)] [] (fun r σ1 => r = r0 ∧ σ1 = σ0) := by
  unfold jf_Model_isBlock
  refine qb_iload_n hX 0 rfl rfl ?_
  refine qb_i2l hX 1 rfl ?_
  refine qb_lconst hX 2 0 rfl (by decide) ?_
  refine qb_aload_n hX 3 rfl rfl ?_
  refine qb_callI hX 4 rfl cv_Model_140 (jm_Model_blocks (qk_GI hX) this  hthis ) (ci := 9) hthis ⟨rfl, rfl, rfl, by decide, by decide⟩ rfl (by exact Nat.le_of_ble_eq_true rfl) (fun x1 => ?_)
  refine qb_iconst hX 5 1 rfl (by decide) ?_
  refine qb_isub hX 6 rfl ?_
  refine qb_i2l hX 7 rfl ?_
  refine qb_calSI hX 8 rfl cv_Model_129 (jm_Model_in (qk_GI hX) (Int32.toInt64 p1) (0 : Int64) (Int32.toInt64 (x1 - 1)) ) ⟨rfl, by decide, by decide⟩ rfl (by exact Nat.le_of_ble_eq_true rfl) (fun x2 => ?_)
  exact qb_zret hX 9 (a := fun x3 => x3) rfl hR (fun _ h => h)
theorem jm_Model_isBlock {l : Launch} {G : qm_G} (hG : qm_GI G) (this : Nat) (p1 : Int32) (hthis : (qm_kd this).1 = 19) : qm_MI l G jy_Model_isBlock prog_11_method_9_code 2 (some .boolean) 1 25 [.ref (G.1 this), .int p1] (jf_Model_isBlock this p1) :=
  qm_metI (by decide +kernel) jd_Model_isBlock (fun v hv => by simp only [List.mem_cons, List.not_mem_nil, or_false] at hv; rcases hv with rfl | rfl <;> rfl) (by exact Nat.le_of_ble_eq_true rfl) hG rfl (fun X hl hg hX r0 σ0 hR => by subst hl; subst hg; exact jb_Model_isBlock hX hR this p1 hthis)
def jl_Model_noteOf : List qm_I := [(0, .iconst 0, 1, 1), (1, .istore_n 3, 1, 2), (2, .iload_n 3, 1, 3), (3, .aload_n 0, 1, 4), (4, .iload_n 1, 1, 5), (5, .bipush 7, 2, 7), (7, .invokevirtual 144, 3, 10), (10, .if_icmp .ge 40, 3, 13), (13, .aload_n 0, 1, 14), (14, .iload_n 1, 1, 15), (15, .bipush 8, 2, 17), (17, .iconst 2, 1, 18), (18, .iload_n 3, 1, 19), (19, .imul, 1, 20), (20, .iadd, 1, 21), (21, .invokevirtual 144, 3, 24), (24, .iload_n 2, 1, 25), (25, .iconst 1, 1, 26), (26, .iadd, 1, 27), (27, .if_icmp .ne 17, 3, 30), (30, .aload_n 0, 1, 31), (31, .iload_n 1, 1, 32), (32, .bipush 8, 2, 34), (34, .iconst 2, 1, 35), (35, .iload_n 3, 1, 36), (36, .imul, 1, 37), (37, .iadd, 1, 38), (38, .iconst 1, 1, 39), (39, .iadd, 1, 40), (40, .invokevirtual 144, 3, 43), (43, .ireturn, 1, 44), (44, .iinc 3 1, 3, 47), (47, .goto (-45), 3, 50), (50, .iconst 0, 1, 51), (51, .ireturn, 1, 52)]
theorem jd_Model_noteOf : qm_D prog_11_method_10_code jl_Model_noteOf := qm_D_of (by decide +kernel)
noncomputable def jf_Model_noteOf (this : Nat) (p1 : Int32) (p2 : Int32) : qm_M Int32 :=
  mB (α := (Int32 ⊕ Int32)) (
    mB (α := (Unit ⊕ (Int32 ⊕ Int32))) (
      mW (S := Int32) (α := (Unit ⊕ (Int32 ⊕ Int32))) (fun s3 =>
        mB (jf_Model_of this p1 7) fun x4 =>
        if x4 ≤ s3 then
          mP (Sum.inr (Sum.inl ()))
        else
          mB (jf_Model_of this p1 (8 + (2 * s3))) fun x5 =>
          if ¬ x5 = (p2 + 1) then
            mB (mP (s3 + 1)) fun x6 =>
            mP (Sum.inl x6)
          else
            mP (Sum.inr (Sum.inr (Sum.inl s3)))) 0) (Sum.elim (fun s2 =>
      mP (Sum.inr 0)) mP)) (Sum.elim (fun s1 =>
    mB (jf_Model_of this p1 ((8 + (2 * s1)) + 1)) fun x7 =>
    mP x7) mP)
set_option maxRecDepth 20000 in
set_option maxHeartbeats 4000000 in
theorem jb_Model_noteOf {X : qm_X} (hX : qm_ok X qr_Model prog_11_method_10_code 4 1 22 jl_Model_noteOf) {r0 : Int32} {σ0 : qm_Mem} (hR : qm_RI X r0 σ0 .int) (this : Nat) (p1 : Int32) (p2 : Int32) (hthis : (qm_kd this).1 = 19) : qm_B X (jf_Model_noteOf this p1 p2) 0 [some (.ref (qx_ad X this)), some (.int p1), some (.int p2), none] [] (fun r σ1 => r = r0 ∧ σ1 = σ0) := by
  unfold jf_Model_noteOf
  refine qb_iconst hX 0 0 rfl (by decide) ?_
  refine qb_istore_n hX 1 ([some (.ref (qx_ad X this)), some (.int p1), some (.int p2), some (.int 0)]) rfl (by decide) rfl ?_
  refine qb_join2 30 (fun s1 => [some (.ref (qx_ad X this)), some (.int p1), none, some (.int s1)]) (fun s1 => []) ?_ ?_
  ·
    refine qb_join2 50 (fun s2 => [none, none, none, none]) (fun s2 => []) ?_ ?_
    ·
      refine qb_loopw (0) (fun s3 => [some (.ref (qx_ad X this)), some (.int p1), some (.int p2), some (.int s3)]) (qw_s (qw_s (qw_s (qw_s (qw_0))))) (fun s3 => ?_)
      refine qb_iload_n hX 2 rfl rfl ?_
      refine qb_aload_n hX 3 rfl rfl ?_
      refine qb_iload_n hX 4 rfl rfl ?_
      refine qb_bipush hX 5 7 rfl (by decide) ?_
      refine qb_callI hX 6 rfl cv_Model_144 (jm_Model_of (qk_GI hX) this p1 7 hthis ) (ci := 9) hthis ⟨rfl, rfl, rfl, by decide, by decide⟩ rfl (by exact Nat.le_of_ble_eq_true rfl) (fun x4 => ?_)
      refine qb_icge hX 7 50 rfl (by decide) ?_ ?_
      ·
        exact qb_exit (fun σ h => qj_wk (ρ' := [none, none, none, none]) (qw_n (qw_n (qw_n (qw_n (qw_0))))) h)
      ·
        refine qb_aload_n hX 8 rfl rfl ?_
        refine qb_iload_n hX 9 rfl rfl ?_
        refine qb_bipush hX 10 8 rfl (by decide) ?_
        refine qb_iconst hX 11 2 rfl (by decide) ?_
        refine qb_iload_n hX 12 rfl rfl ?_
        refine qb_imul hX 13 rfl ?_
        refine qb_iadd hX 14 rfl ?_
        refine qb_callI hX 15 rfl cv_Model_144 (jm_Model_of (qk_GI hX) this p1 (8 + (2 * s3)) hthis ) (ci := 9) hthis ⟨rfl, rfl, rfl, by decide, by decide⟩ rfl (by exact Nat.le_of_ble_eq_true rfl) (fun x5 => ?_)
        refine qb_iload_n hX 16 rfl rfl ?_
        refine qb_iconst hX 17 1 rfl (by decide) ?_
        refine qb_iadd hX 18 rfl ?_
        refine qb_icne hX 19 44 rfl (by decide) ?_ ?_
        ·
          refine qb_iinc hX 31 1 (fun x6 => [some (.ref (qx_ad X this)), some (.int p1), some (.int p2), some (.int x6)]) rfl (by decide) (by decide) rfl (fun _ => rfl) (fun x6 => ?_)
          exact qb_exit (fun σ h => qj_goto hX 32 rfl (by decide) (qj_wk (ρ' := [some (.ref (qx_ad X this)), some (.int p1), some (.int p2), some (.int x6)]) (qw_s (qw_s (qw_s (qw_s (qw_0))))) h))
        ·
          exact qb_exit (fun σ h => qj_wk (ρ' := [some (.ref (qx_ad X this)), some (.int p1), none, some (.int s3)]) (qw_s (qw_s (qw_n (qw_s (qw_0))))) h)
    · intro s2
      refine qb_iconst hX 33 0 rfl (by decide) ?_
      exact qb_iret hX 34 rfl hR (fun _ h => h)
  · intro s1
    refine qb_aload_n hX 20 rfl rfl ?_
    refine qb_iload_n hX 21 rfl rfl ?_
    refine qb_bipush hX 22 8 rfl (by decide) ?_
    refine qb_iconst hX 23 2 rfl (by decide) ?_
    refine qb_iload_n hX 24 rfl rfl ?_
    refine qb_imul hX 25 rfl ?_
    refine qb_iadd hX 26 rfl ?_
    refine qb_iconst hX 27 1 rfl (by decide) ?_
    refine qb_iadd hX 28 rfl ?_
    refine qb_callI hX 29 rfl cv_Model_144 (jm_Model_of (qk_GI hX) this p1 ((8 + (2 * s1)) + 1) hthis ) (ci := 9) hthis ⟨rfl, rfl, rfl, by decide, by decide⟩ rfl (by exact Nat.le_of_ble_eq_true rfl) (fun x7 => ?_)
    exact qb_iret hX 30 rfl hR (fun _ h => h)
theorem jm_Model_noteOf {l : Launch} {G : qm_G} (hG : qm_GI G) (this : Nat) (p1 : Int32) (p2 : Int32) (hthis : (qm_kd this).1 = 19) : qm_MI l G jy_Model_noteOf prog_11_method_10_code 4 (some .int) 1 22 [.ref (G.1 this), .int p1, .int p2] (jf_Model_noteOf this p1 p2) :=
  qm_metI (by decide +kernel) jd_Model_noteOf (fun v hv => by simp only [List.mem_cons, List.not_mem_nil, or_false] at hv; rcases hv with rfl | rfl | rfl <;> rfl) (by exact Nat.le_of_ble_eq_true rfl) hG rfl (fun X hl hg hX r0 σ0 hR => by subst hl; subst hg; exact jb_Model_noteOf hX hR this p1 p2 hthis)
def jl_Model_laysPiece : List qm_I := [(0, .aload_n 0, 1, 1), (1, .getfield 148, 3, 4), (4, .istore_n 3, 1, 5), (5, .aload_n 0, 1, 6), (6, .getfield 26, 3, 9), (9, .iload_n 3, 1, 10), (10, .iload_n 1, 1, 11), (11, .iastore, 1, 12), (12, .aload_n 0, 1, 13), (13, .getfield 29, 3, 16), (16, .iload_n 3, 1, 17), (17, .iload_n 2, 1, 18), (18, .iastore, 1, 19), (19, .aload_n 0, 1, 20), (20, .getfield 32, 3, 23), (23, .iload_n 3, 1, 24), (24, .aload_n 0, 1, 25), (25, .iload_n 1, 1, 26), (26, .iconst 2, 1, 27), (27, .invokevirtual 144, 3, 30), (30, .iload_n 2, 1, 31), (31, .ifCond .ne 12, 3, 34), (34, .aload_n 0, 1, 35), (35, .iload_n 1, 1, 36), (36, .iconst 3, 1, 37), (37, .invokevirtual 144, 3, 40), (40, .goto 4, 3, 43), (43, .iconst 0, 1, 44), (44, .iadd, 1, 45), (45, .iastore, 1, 46), (46, .aload_n 0, 1, 47), (47, .getfield 35, 3, 50), (50, .iload_n 3, 1, 51), (51, .iload_n 2, 1, 52), (52, .ifCond .ne 13, 3, 55), (55, .aload_n 0, 1, 56), (56, .iload_n 1, 1, 57), (57, .bipush 6, 2, 59), (59, .invokevirtual 144, 3, 62), (62, .goto 4, 3, 65), (65, .iconst 0, 1, 66), (66, .iastore, 1, 67), (67, .aload_n 0, 1, 68), (68, .getfield 38, 3, 71), (71, .iload_n 3, 1, 72), (72, .aload_n 0, 1, 73), (73, .iload_n 1, 1, 74), (74, .iload_n 2, 1, 75), (75, .invokevirtual 152, 3, 78), (78, .iastore, 1, 79), (79, .aload_n 0, 1, 80), (80, .getfield 41, 3, 83), (83, .iload_n 3, 1, 84), (84, .aload_n 0, 1, 85), (85, .getfield 155, 3, 88), (88, .iastore, 1, 89), (89, .aload_n 0, 1, 90), (90, .dup, 1, 91), (91, .getfield 148, 3, 94), (94, .iconst 1, 1, 95), (95, .iadd, 1, 96), (96, .putfield 148, 3, 99), (99, .return_, 1, 100)]
theorem jd_Model_laysPiece : qm_D prog_11_method_11_code jl_Model_laysPiece := qm_D_of (by decide +kernel)
noncomputable def jf_Model_laysPiece (this : Nat) (p1 : Int32) (p2 : Int32) : qm_M Unit :=
  mB (mGt this 13) fun x1 =>
  mB (mSt (qm_rf this 6) x1 p1) fun _ =>
  mB (mSt (qm_rf this 7) x1 p2) fun _ =>
  mB (jf_Model_of this p1 2) fun x2 =>
  mB (α := Int32) (
    if ¬ p2 = 0 then
      mP 0
    else
      mB (jf_Model_of this p1 3) fun x4 =>
      mP x4) fun s3 =>
  mB (mSt (qm_rf this 8) x1 (x2 + s3)) fun _ =>
  mB (α := Int32) (
    if ¬ p2 = 0 then
      mP 0
    else
      mB (jf_Model_of this p1 6) fun x6 =>
      mP x6) fun s5 =>
  mB (mSt (qm_rf this 9) x1 s5) fun _ =>
  mB (jf_Model_noteOf this p1 p2) fun x7 =>
  mB (mSt (qm_rf this 10) x1 x7) fun _ =>
  mB (mGt this 16) fun x8 =>
  mB (mSt (qm_rf this 11) x1 x8) fun _ =>
  mB (mGt this 13) fun x9 =>
  mB (mPt this 13 (x9 + 1)) fun _ =>
  mP ()
set_option maxRecDepth 20000 in
set_option maxHeartbeats 4000000 in
theorem jb_Model_laysPiece {X : qm_X} (hX : qm_ok X qr_Model prog_11_method_11_code 4 2 45 jl_Model_laysPiece) {σ0 : qm_Mem} (hR : qm_RV X σ0) (this : Nat) (p1 : Int32) (p2 : Int32) (hthis : (qm_kd this).1 = 19) : qm_B X (jf_Model_laysPiece this p1 p2) 0 [some (.ref (qx_ad X this)), some (.int p1), some (.int p2), none] [] (fun _ σ1 => σ1 = σ0) := by
  unfold jf_Model_laysPiece
  refine qb_aload_n hX 0 rfl rfl ?_
  refine qb_get hX 1 rfl fl_Model_148 hthis rfl (fun x1 => ?_)
  refine qb_istore_n hX 2 ([some (.ref (qx_ad X this)), some (.int p1), some (.int p2), some (.int x1)]) rfl (by decide) rfl ?_
  refine qb_aload_n hX 3 rfl rfl ?_
  refine qb_getR hX 4 rfl fl_Model_26 hthis rfl ?_
  refine qb_iload_n hX 5 rfl rfl ?_
  refine qb_iload_n hX 6 rfl rfl ?_
  refine qb_iast hX 7 rfl (kf_Model_6 hthis) ?_
  refine qb_aload_n hX 8 rfl rfl ?_
  refine qb_getR hX 9 rfl fl_Model_29 hthis rfl ?_
  refine qb_iload_n hX 10 rfl rfl ?_
  refine qb_iload_n hX 11 rfl rfl ?_
  refine qb_iast hX 12 rfl (kf_Model_7 hthis) ?_
  refine qb_aload_n hX 13 rfl rfl ?_
  refine qb_getR hX 14 rfl fl_Model_32 hthis rfl ?_
  refine qb_iload_n hX 15 rfl rfl ?_
  refine qb_aload_n hX 16 rfl rfl ?_
  refine qb_iload_n hX 17 rfl rfl ?_
  refine qb_iconst hX 18 2 rfl (by decide) ?_
  refine qb_callI hX 19 rfl cv_Model_144 (jm_Model_of (qk_GI hX) this p1 2 hthis ) (ci := 9) hthis ⟨rfl, rfl, rfl, by decide, by decide⟩ rfl (by exact Nat.le_of_ble_eq_true rfl) (fun x2 => ?_)
  refine qb_iload_n hX 20 rfl rfl ?_
  refine qb_join 44 (fun s3 => [some (.ref (qx_ad X this)), some (.int p1), some (.int p2), some (.int x1)]) (fun s3 => [.int s3, .int x2, .int x1, .ref (qx_ad X (qm_rf this 8))]) ?_ ?_
  ·
    refine qb_ifne hX 21 43 rfl (by decide) ?_ ?_
    ·
      refine qb_iconst hX 27 0 rfl (by decide) ?_
      exact qb_exit (fun σ h => qj_wk (ρ' := [some (.ref (qx_ad X this)), some (.int p1), some (.int p2), some (.int x1)]) (qw_s (qw_s (qw_s (qw_s (qw_0))))) h)
    ·
      refine qb_aload_n hX 22 rfl rfl ?_
      refine qb_iload_n hX 23 rfl rfl ?_
      refine qb_iconst hX 24 3 rfl (by decide) ?_
      refine qb_callI hX 25 rfl cv_Model_144 (jm_Model_of (qk_GI hX) this p1 3 hthis ) (ci := 9) hthis ⟨rfl, rfl, rfl, by decide, by decide⟩ rfl (by exact Nat.le_of_ble_eq_true rfl) (fun x4 => ?_)
      exact qb_exit (fun σ h => qj_goto hX 26 rfl (by decide) (qj_wk (ρ' := [some (.ref (qx_ad X this)), some (.int p1), some (.int p2), some (.int x1)]) (qw_s (qw_s (qw_s (qw_s (qw_0))))) h))
  · intro s3
    refine qb_iadd hX 28 rfl ?_
    refine qb_iast hX 29 rfl (kf_Model_8 hthis) ?_
    refine qb_aload_n hX 30 rfl rfl ?_
    refine qb_getR hX 31 rfl fl_Model_35 hthis rfl ?_
    refine qb_iload_n hX 32 rfl rfl ?_
    refine qb_iload_n hX 33 rfl rfl ?_
    refine qb_join 66 (fun s5 => [some (.ref (qx_ad X this)), some (.int p1), some (.int p2), some (.int x1)]) (fun s5 => [.int s5, .int x1, .ref (qx_ad X (qm_rf this 9))]) ?_ ?_
    ·
      refine qb_ifne hX 34 65 rfl (by decide) ?_ ?_
      ·
        refine qb_iconst hX 40 0 rfl (by decide) ?_
        exact qb_exit (fun σ h => qj_wk (ρ' := [some (.ref (qx_ad X this)), some (.int p1), some (.int p2), some (.int x1)]) (qw_s (qw_s (qw_s (qw_s (qw_0))))) h)
      ·
        refine qb_aload_n hX 35 rfl rfl ?_
        refine qb_iload_n hX 36 rfl rfl ?_
        refine qb_bipush hX 37 6 rfl (by decide) ?_
        refine qb_callI hX 38 rfl cv_Model_144 (jm_Model_of (qk_GI hX) this p1 6 hthis ) (ci := 9) hthis ⟨rfl, rfl, rfl, by decide, by decide⟩ rfl (by exact Nat.le_of_ble_eq_true rfl) (fun x6 => ?_)
        exact qb_exit (fun σ h => qj_goto hX 39 rfl (by decide) (qj_wk (ρ' := [some (.ref (qx_ad X this)), some (.int p1), some (.int p2), some (.int x1)]) (qw_s (qw_s (qw_s (qw_s (qw_0))))) h))
    · intro s5
      refine qb_iast hX 41 rfl (kf_Model_9 hthis) ?_
      refine qb_aload_n hX 42 rfl rfl ?_
      refine qb_getR hX 43 rfl fl_Model_38 hthis rfl ?_
      refine qb_iload_n hX 44 rfl rfl ?_
      refine qb_aload_n hX 45 rfl rfl ?_
      refine qb_iload_n hX 46 rfl rfl ?_
      refine qb_iload_n hX 47 rfl rfl ?_
      refine qb_callI hX 48 rfl cv_Model_152 (jm_Model_noteOf (qk_GI hX) this p1 p2 hthis ) (ci := 9) hthis ⟨rfl, rfl, rfl, by decide, by decide⟩ rfl (by exact Nat.le_of_ble_eq_true rfl) (fun x7 => ?_)
      refine qb_iast hX 49 rfl (kf_Model_10 hthis) ?_
      refine qb_aload_n hX 50 rfl rfl ?_
      refine qb_getR hX 51 rfl fl_Model_41 hthis rfl ?_
      refine qb_iload_n hX 52 rfl rfl ?_
      refine qb_aload_n hX 53 rfl rfl ?_
      refine qb_get hX 54 rfl fl_Model_155 hthis rfl (fun x8 => ?_)
      refine qb_iast hX 55 rfl (kf_Model_11 hthis) ?_
      refine qb_aload_n hX 56 rfl rfl ?_
      refine qb_dup hX 57 rfl rfl ?_
      refine qb_get hX 58 rfl fl_Model_148 hthis rfl (fun x9 => ?_)
      refine qb_iconst hX 59 1 rfl (by decide) ?_
      refine qb_iadd hX 60 rfl ?_
      refine qb_put hX 61 rfl fp_Model_148 hthis ?_
      exact qb_vret hX 62 rfl hR (fun _ h => h)
theorem jm_Model_laysPiece {l : Launch} {G : qm_G} (hG : qm_GI G) (this : Nat) (p1 : Int32) (p2 : Int32) (hthis : (qm_kd this).1 = 19) : qm_MV l G jy_Model_laysPiece prog_11_method_11_code 4 2 45 [.ref (G.1 this), .int p1, .int p2] (jf_Model_laysPiece this p1 p2) :=
  qm_metV (by decide +kernel) jd_Model_laysPiece (fun v hv => by simp only [List.mem_cons, List.not_mem_nil, or_false] at hv; rcases hv with rfl | rfl | rfl <;> rfl) (by exact Nat.le_of_ble_eq_true rfl) hG (fun X hl hg hX σ0 hR => by subst hl; subst hg; exact jb_Model_laysPiece hX hR this p1 p2 hthis)
def jl_Model_mayEnd : List qm_I := [(0, .aload_n 0, 1, 1), (1, .getfield 26, 3, 4), (4, .iload_n 1, 1, 5), (5, .iaload, 1, 6), (6, .istore_n 2, 1, 7), (7, .aload_n 0, 1, 8), (8, .getfield 29, 3, 11), (11, .iload_n 1, 1, 12), (12, .iaload, 1, 13), (13, .iconst 1, 1, 14), (14, .iadd, 1, 15), (15, .istore_n 3, 1, 16), (16, .aload_n 0, 1, 17), (17, .iload_n 2, 1, 18), (18, .iconst 1, 1, 19), (19, .invokevirtual 144, 3, 22), (22, .istore 4, 2, 24), (24, .iload_n 3, 1, 25), (25, .iload 4, 2, 27), (27, .if_icmp .ne 28, 3, 30), (30, .aload_n 0, 1, 31), (31, .iload_n 2, 1, 32), (32, .iconst 0, 1, 33), (33, .invokevirtual 144, 3, 36), (36, .iconst 2, 1, 37), (37, .if_icmp .eq 16, 3, 40), (40, .aload_n 0, 1, 41), (41, .iload_n 2, 1, 42), (42, .iconst 4, 1, 43), (43, .invokevirtual 144, 3, 46), (46, .ifCond .ne 7, 3, 49), (49, .iconst 1, 1, 50), (50, .goto 4, 3, 53), (53, .iconst 0, 1, 54), (54, .ireturn, 1, 55), (55, .aload_n 0, 1, 56), (56, .iload_n 2, 1, 57), (57, .iconst 0, 1, 58), (58, .invokevirtual 144, 3, 61), (61, .iconst 3, 1, 62), (62, .if_icmp .ne 5, 3, 65), (65, .iconst 1, 1, 66), (66, .ireturn, 1, 67), (67, .aload_n 0, 1, 68), (68, .iload_n 2, 1, 69), (69, .iconst 5, 1, 70), (70, .invokevirtual 144, 3, 73), (73, .iconst 1, 1, 74), (74, .if_icmp .eq 26, 3, 77), (77, .iload_n 3, 1, 78), (78, .aload_n 0, 1, 79), (79, .getfield 7, 3, 82), (82, .iconst 2, 1, 83), (83, .iaload, 1, 84), (84, .if_icmp .lt 16, 3, 87), (87, .iload 4, 2, 89), (89, .iload_n 3, 1, 90), (90, .isub, 1, 91), (91, .aload_n 0, 1, 92), (92, .getfield 7, 3, 95), (95, .iconst 3, 1, 96), (96, .iaload, 1, 97), (97, .if_icmp .ge 5, 3, 100), (100, .iconst 0, 1, 101), (101, .ireturn, 1, 102), (102, .iload_n 2, 1, 103), (103, .ifCond .eq 25, 3, 106), (106, .aload_n 0, 1, 107), (107, .iload_n 2, 1, 108), (108, .iconst 1, 1, 109), (109, .isub, 1, 110), (110, .iconst 0, 1, 111), (111, .invokevirtual 144, 3, 114), (114, .iconst 2, 1, 115), (115, .if_icmp .ne 13, 3, 118), (118, .iload_n 3, 1, 119), (119, .aload_n 0, 1, 120), (120, .getfield 7, 3, 123), (123, .iconst 4, 1, 124), (124, .iaload, 1, 125), (125, .if_icmp .lt 7, 3, 128), (128, .iconst 1, 1, 129), (129, .goto 4, 3, 132), (132, .iconst 0, 1, 133), (133, .ireturn, 1, 134)]
theorem jd_Model_mayEnd : qm_D prog_11_method_13_code jl_Model_mayEnd := qm_D_of (by decide +kernel)
noncomputable def jf_Model_mayEnd (this : Nat) (p1 : Int32) : qm_M Int32 :=
  mB (mLd (qm_rf this 6) p1) fun x1 =>
  mB (mLd (qm_rf this 7) p1) fun x2 =>
  mB (mP (x2 + 1)) fun x3 =>
  mB (jf_Model_of this x1 1) fun x4 =>
  if ¬ x3 = x4 then
    mB (jf_Model_of this x1 0) fun x5 =>
    if ¬ x5 = 3 then
      mB (jf_Model_of this x1 5) fun x6 =>
      if x6 = 1 then
        mP 0
      else
        mB (mLd (qm_rf this 0) 2) fun x7 =>
        if x3 < x7 then
          mP 0
        else
          mB (mLd (qm_rf this 0) 3) fun x8 =>
          if x8 ≤ (x4 - x3) then
            if x1 = 0 then
              mP 1
            else
              mB (jf_Model_of this (x1 - 1) 0) fun x9 =>
              if ¬ x9 = 2 then
                mP 1
              else
                mB (mLd (qm_rf this 0) 4) fun x10 =>
                if x3 < x10 then
                  mP 0
                else
                  mP 1
          else
            mP 0
    else
      mP 1
  else
    mB (jf_Model_of this x1 0) fun x11 =>
    if x11 = 2 then
      mP 0
    else
      mB (jf_Model_of this x1 4) fun x12 =>
      if ¬ x12 = 0 then
        mP 0
      else
        mP 1
set_option maxRecDepth 20000 in
set_option maxHeartbeats 4000000 in
theorem jb_Model_mayEnd {X : qm_X} (hX : qm_ok X qr_Model prog_11_method_13_code 5 1 22 jl_Model_mayEnd) {r0 : Int32} {σ0 : qm_Mem} (hR : qm_RI X r0 σ0 .boolean) (this : Nat) (p1 : Int32) (hthis : (qm_kd this).1 = 19) : qm_B X (jf_Model_mayEnd this p1) 0 [some (.ref (qx_ad X this)), some (.int p1), none, none, none] [] (fun r σ1 => r = r0 ∧ σ1 = σ0) := by
  unfold jf_Model_mayEnd
  refine qb_aload_n hX 0 rfl rfl ?_
  refine qb_getR hX 1 rfl fl_Model_26 hthis rfl ?_
  refine qb_iload_n hX 2 rfl rfl ?_
  refine qb_iald hX 3 rfl (kf_Model_6 hthis) (fun x1 => ?_)
  refine qb_istore_n hX 4 ([some (.ref (qx_ad X this)), some (.int p1), some (.int x1), none, none]) rfl (by decide) rfl ?_
  refine qb_aload_n hX 5 rfl rfl ?_
  refine qb_getR hX 6 rfl fl_Model_29 hthis rfl ?_
  refine qb_iload_n hX 7 rfl rfl ?_
  refine qb_iald hX 8 rfl (kf_Model_7 hthis) (fun x2 => ?_)
  refine qb_iconst hX 9 1 rfl (by decide) ?_
  refine qb_iadd hX 10 rfl ?_
  refine qb_istore_nL hX 11 (fun x3 => [some (.ref (qx_ad X this)), some (.int p1), some (.int x1), some (.int x3), none]) rfl (by decide) (fun _ => rfl) (fun x3 => ?_)
  refine qb_aload_n hX 12 rfl rfl ?_
  refine qb_iload_n hX 13 rfl rfl ?_
  refine qb_iconst hX 14 1 rfl (by decide) ?_
  refine qb_callI hX 15 rfl cv_Model_144 (jm_Model_of (qk_GI hX) this x1 1 hthis ) (ci := 9) hthis ⟨rfl, rfl, rfl, by decide, by decide⟩ rfl (by exact Nat.le_of_ble_eq_true rfl) (fun x4 => ?_)
  refine qb_istore hX 16 ([some (.ref (qx_ad X this)), some (.int p1), some (.int x1), some (.int x3), some (.int x4)]) rfl (by decide) rfl ?_
  refine qb_iload_n hX 17 rfl rfl ?_
  refine qb_iload hX 18 rfl rfl ?_
  refine qb_icne hX 19 55 rfl (by decide) ?_ ?_
  ·
    refine qb_aload_n hX 35 rfl rfl ?_
    refine qb_iload_n hX 36 rfl rfl ?_
    refine qb_iconst hX 37 0 rfl (by decide) ?_
    refine qb_callI hX 38 rfl cv_Model_144 (jm_Model_of (qk_GI hX) this x1 0 hthis ) (ci := 9) hthis ⟨rfl, rfl, rfl, by decide, by decide⟩ rfl (by exact Nat.le_of_ble_eq_true rfl) (fun x5 => ?_)
    refine qb_iconst hX 39 3 rfl (by decide) ?_
    refine qb_icne hX 40 67 rfl (by decide) ?_ ?_
    ·
      refine qb_aload_n hX 43 rfl rfl ?_
      refine qb_iload_n hX 44 rfl rfl ?_
      refine qb_iconst hX 45 5 rfl (by decide) ?_
      refine qb_callI hX 46 rfl cv_Model_144 (jm_Model_of (qk_GI hX) this x1 5 hthis ) (ci := 9) hthis ⟨rfl, rfl, rfl, by decide, by decide⟩ rfl (by exact Nat.le_of_ble_eq_true rfl) (fun x6 => ?_)
      refine qb_iconst hX 47 1 rfl (by decide) ?_
      refine qb_iceq hX 48 100 rfl (by decide) ?_ ?_
      ·
        refine qb_iconst hX 63 0 rfl (by decide) ?_
        exact qb_zret1 hX 64 rfl hR (by decide) (fun _ h => h)
      ·
        refine qb_iload_n hX 49 rfl rfl ?_
        refine qb_aload_n hX 50 rfl rfl ?_
        refine qb_getR hX 51 rfl fl_Model_7 hthis rfl ?_
        refine qb_iconst hX 52 2 rfl (by decide) ?_
        refine qb_iald hX 53 rfl (kf_Model_0 hthis) (fun x7 => ?_)
        refine qb_iclt hX 54 100 rfl (by decide) ?_ ?_
        ·
          refine qb_iconst hX 63 0 rfl (by decide) ?_
          exact qb_zret1 hX 64 rfl hR (by decide) (fun _ h => h)
        ·
          refine qb_iload hX 55 rfl rfl ?_
          refine qb_iload_n hX 56 rfl rfl ?_
          refine qb_isub hX 57 rfl ?_
          refine qb_aload_n hX 58 rfl rfl ?_
          refine qb_getR hX 59 rfl fl_Model_7 hthis rfl ?_
          refine qb_iconst hX 60 3 rfl (by decide) ?_
          refine qb_iald hX 61 rfl (kf_Model_0 hthis) (fun x8 => ?_)
          refine qb_icge hX 62 102 rfl (by decide) ?_ ?_
          ·
            refine qb_iload_n hX 65 rfl rfl ?_
            refine qb_ifeq hX 66 128 rfl (by decide) ?_ ?_
            ·
              refine qb_iconst hX 81 1 rfl (by decide) ?_
              refine qb_goto hX 82 (tgt := 133) rfl (by decide) ?_
              exact qb_zret1 hX 84 rfl hR (by decide) (fun _ h => h)
            ·
              refine qb_aload_n hX 67 rfl rfl ?_
              refine qb_iload_n hX 68 rfl rfl ?_
              refine qb_iconst hX 69 1 rfl (by decide) ?_
              refine qb_isub hX 70 rfl ?_
              refine qb_iconst hX 71 0 rfl (by decide) ?_
              refine qb_callI hX 72 rfl cv_Model_144 (jm_Model_of (qk_GI hX) this (x1 - 1) 0 hthis ) (ci := 9) hthis ⟨rfl, rfl, rfl, by decide, by decide⟩ rfl (by exact Nat.le_of_ble_eq_true rfl) (fun x9 => ?_)
              refine qb_iconst hX 73 2 rfl (by decide) ?_
              refine qb_icne hX 74 128 rfl (by decide) ?_ ?_
              ·
                refine qb_iconst hX 81 1 rfl (by decide) ?_
                refine qb_goto hX 82 (tgt := 133) rfl (by decide) ?_
                exact qb_zret1 hX 84 rfl hR (by decide) (fun _ h => h)
              ·
                refine qb_iload_n hX 75 rfl rfl ?_
                refine qb_aload_n hX 76 rfl rfl ?_
                refine qb_getR hX 77 rfl fl_Model_7 hthis rfl ?_
                refine qb_iconst hX 78 4 rfl (by decide) ?_
                refine qb_iald hX 79 rfl (kf_Model_0 hthis) (fun x10 => ?_)
                refine qb_iclt hX 80 132 rfl (by decide) ?_ ?_
                ·
                  refine qb_iconst hX 83 0 rfl (by decide) ?_
                  exact qb_zret1 hX 84 rfl hR (by decide) (fun _ h => h)
                ·
                  refine qb_iconst hX 81 1 rfl (by decide) ?_
                  refine qb_goto hX 82 (tgt := 133) rfl (by decide) ?_
                  exact qb_zret1 hX 84 rfl hR (by decide) (fun _ h => h)
          ·
            refine qb_iconst hX 63 0 rfl (by decide) ?_
            exact qb_zret1 hX 64 rfl hR (by decide) (fun _ h => h)
    ·
      refine qb_iconst hX 41 1 rfl (by decide) ?_
      exact qb_zret1 hX 42 rfl hR (by decide) (fun _ h => h)
  ·
    refine qb_aload_n hX 20 rfl rfl ?_
    refine qb_iload_n hX 21 rfl rfl ?_
    refine qb_iconst hX 22 0 rfl (by decide) ?_
    refine qb_callI hX 23 rfl cv_Model_144 (jm_Model_of (qk_GI hX) this x1 0 hthis ) (ci := 9) hthis ⟨rfl, rfl, rfl, by decide, by decide⟩ rfl (by exact Nat.le_of_ble_eq_true rfl) (fun x11 => ?_)
    refine qb_iconst hX 24 2 rfl (by decide) ?_
    refine qb_iceq hX 25 53 rfl (by decide) ?_ ?_
    ·
      refine qb_iconst hX 33 0 rfl (by decide) ?_
      exact qb_zret1 hX 34 rfl hR (by decide) (fun _ h => h)
    ·
      refine qb_aload_n hX 26 rfl rfl ?_
      refine qb_iload_n hX 27 rfl rfl ?_
      refine qb_iconst hX 28 4 rfl (by decide) ?_
      refine qb_callI hX 29 rfl cv_Model_144 (jm_Model_of (qk_GI hX) this x1 4 hthis ) (ci := 9) hthis ⟨rfl, rfl, rfl, by decide, by decide⟩ rfl (by exact Nat.le_of_ble_eq_true rfl) (fun x12 => ?_)
      refine qb_ifne hX 30 53 rfl (by decide) ?_ ?_
      ·
        refine qb_iconst hX 33 0 rfl (by decide) ?_
        exact qb_zret1 hX 34 rfl hR (by decide) (fun _ h => h)
      ·
        refine qb_iconst hX 31 1 rfl (by decide) ?_
        refine qb_goto hX 32 (tgt := 54) rfl (by decide) ?_
        exact qb_zret1 hX 34 rfl hR (by decide) (fun _ h => h)
theorem jm_Model_mayEnd {l : Launch} {G : qm_G} (hG : qm_GI G) (this : Nat) (p1 : Int32) (hthis : (qm_kd this).1 = 19) : qm_MI l G jy_Model_mayEnd prog_11_method_13_code 5 (some .boolean) 1 22 [.ref (G.1 this), .int p1] (jf_Model_mayEnd this p1) :=
  qm_metI (by decide +kernel) jd_Model_mayEnd (fun v hv => by simp only [List.mem_cons, List.not_mem_nil, or_false] at hv; rcases hv with rfl | rfl <;> rfl) (by exact Nat.le_of_ble_eq_true rfl) hG rfl (fun X hl hg hX r0 σ0 hR => by subst hl; subst hg; exact jb_Model_mayEnd hX hR this p1 hthis)
def jl_Model_laysSums : List qm_I := [(0, .aload_n 0, 1, 1), (1, .getfield 56, 3, 4), (4, .iconst 0, 1, 5), (5, .iconst 0, 1, 6), (6, .iastore, 1, 7), (7, .aload_n 0, 1, 8), (8, .getfield 59, 3, 11), (11, .iconst 0, 1, 12), (12, .iconst 0, 1, 13), (13, .iastore, 1, 14), (14, .aload_n 0, 1, 15), (15, .getfield 62, 3, 18), (18, .iconst 0, 1, 19), (19, .iconst 0, 1, 20), (20, .iastore, 1, 21), (21, .aload_n 0, 1, 22), (22, .getfield 65, 3, 25), (25, .iconst 0, 1, 26), (26, .iconst 0, 1, 27), (27, .iastore, 1, 28), (28, .iconst 0, 1, 29), (29, .istore_n 1, 1, 30), (30, .iload_n 1, 1, 31), (31, .aload_n 0, 1, 32), (32, .getfield 148, 3, 35), (35, .if_icmp .ge 104, 3, 38), (38, .aload_n 0, 1, 39), (39, .getfield 56, 3, 42), (42, .iload_n 1, 1, 43), (43, .iconst 1, 1, 44), (44, .iadd, 1, 45), (45, .aload_n 0, 1, 46), (46, .getfield 56, 3, 49), (49, .iload_n 1, 1, 50), (50, .iaload, 1, 51), (51, .aload_n 0, 1, 52), (52, .getfield 32, 3, 55), (55, .iload_n 1, 1, 56), (56, .iaload, 1, 57), (57, .iadd, 1, 58), (58, .iastore, 1, 59), (59, .aload_n 0, 1, 60), (60, .getfield 59, 3, 63), (63, .iload_n 1, 1, 64), (64, .iconst 1, 1, 65), (65, .iadd, 1, 66), (66, .aload_n 0, 1, 67), (67, .getfield 59, 3, 70), (70, .iload_n 1, 1, 71), (71, .iaload, 1, 72), (72, .aload_n 0, 1, 73), (73, .getfield 35, 3, 76), (76, .iload_n 1, 1, 77), (77, .iaload, 1, 78), (78, .iadd, 1, 79), (79, .iastore, 1, 80), (80, .aload_n 0, 1, 81), (81, .getfield 62, 3, 84), (84, .iload_n 1, 1, 85), (85, .iconst 1, 1, 86), (86, .iadd, 1, 87), (87, .aload_n 0, 1, 88), (88, .getfield 62, 3, 91), (91, .iload_n 1, 1, 92), (92, .iaload, 1, 93), (93, .aload_n 0, 1, 94), (94, .getfield 38, 3, 97), (97, .iload_n 1, 1, 98), (98, .iaload, 1, 99), (99, .iadd, 1, 100), (100, .iastore, 1, 101), (101, .aload_n 0, 1, 102), (102, .getfield 65, 3, 105), (105, .iload_n 1, 1, 106), (106, .iconst 1, 1, 107), (107, .iadd, 1, 108), (108, .aload_n 0, 1, 109), (109, .getfield 38, 3, 112), (112, .iload_n 1, 1, 113), (113, .iaload, 1, 114), (114, .ifCond .le 12, 3, 117), (117, .aload_n 0, 1, 118), (118, .getfield 38, 3, 121), (121, .iload_n 1, 1, 122), (122, .iaload, 1, 123), (123, .goto 9, 3, 126), (126, .aload_n 0, 1, 127), (127, .getfield 65, 3, 130), (130, .iload_n 1, 1, 131), (131, .iaload, 1, 132), (132, .iastore, 1, 133), (133, .iinc 1 1, 3, 136), (136, .goto (-106), 3, 139), (139, .return_, 1, 140)]
theorem jd_Model_laysSums : qm_D prog_11_method_14_code jl_Model_laysSums := qm_D_of (by decide +kernel)
noncomputable def jf_Model_laysSums (this : Nat) : qm_M Unit :=
  mB (mSt (qm_rf this 18) 0 0) fun _ =>
  mB (mSt (qm_rf this 19) 0 0) fun _ =>
  mB (mSt (qm_rf this 20) 0 0) fun _ =>
  mB (mSt (qm_rf this 21) 0 0) fun _ =>
  mB (α := Unit) (
    mW (S := Int32) (α := Unit) (fun s2 =>
      mB (mGt this 13) fun x3 =>
      if x3 ≤ s2 then
        mP (Sum.inr ())
      else
        mB (mLd (qm_rf this 18) s2) fun x4 =>
        mB (mLd (qm_rf this 8) s2) fun x5 =>
        mB (mSt (qm_rf this 18) (s2 + 1) (x4 + x5)) fun _ =>
        mB (mLd (qm_rf this 19) s2) fun x6 =>
        mB (mLd (qm_rf this 9) s2) fun x7 =>
        mB (mSt (qm_rf this 19) (s2 + 1) (x6 + x7)) fun _ =>
        mB (mLd (qm_rf this 20) s2) fun x8 =>
        mB (mLd (qm_rf this 10) s2) fun x9 =>
        mB (mSt (qm_rf this 20) (s2 + 1) (x8 + x9)) fun _ =>
        mB (mLd (qm_rf this 10) s2) fun x10 =>
        mB (α := Int32) (
          if x10 ≤ 0 then
            mB (mLd (qm_rf this 21) s2) fun x12 =>
            mP x12
          else
            mB (mLd (qm_rf this 10) s2) fun x13 =>
            mP x13) fun s11 =>
        mB (mSt (qm_rf this 21) (s2 + 1) s11) fun _ =>
        mB (mP (s2 + 1)) fun x14 =>
        mP (Sum.inl x14)) 0) fun s1 =>
  mP ()
set_option maxRecDepth 20000 in
set_option maxHeartbeats 4000000 in
theorem jb_Model_laysSums {X : qm_X} (hX : qm_ok X qr_Model prog_11_method_14_code 2 0 0 jl_Model_laysSums) {σ0 : qm_Mem} (hR : qm_RV X σ0) (this : Nat) (hthis : (qm_kd this).1 = 19) : qm_B X (jf_Model_laysSums this) 0 [some (.ref (qx_ad X this)), none] [] (fun _ σ1 => σ1 = σ0) := by
  unfold jf_Model_laysSums
  refine qb_aload_n hX 0 rfl rfl ?_
  refine qb_getR hX 1 rfl fl_Model_56 hthis rfl ?_
  refine qb_iconst hX 2 0 rfl (by decide) ?_
  refine qb_iconst hX 3 0 rfl (by decide) ?_
  refine qb_iast hX 4 rfl (kf_Model_18 hthis) ?_
  refine qb_aload_n hX 5 rfl rfl ?_
  refine qb_getR hX 6 rfl fl_Model_59 hthis rfl ?_
  refine qb_iconst hX 7 0 rfl (by decide) ?_
  refine qb_iconst hX 8 0 rfl (by decide) ?_
  refine qb_iast hX 9 rfl (kf_Model_19 hthis) ?_
  refine qb_aload_n hX 10 rfl rfl ?_
  refine qb_getR hX 11 rfl fl_Model_62 hthis rfl ?_
  refine qb_iconst hX 12 0 rfl (by decide) ?_
  refine qb_iconst hX 13 0 rfl (by decide) ?_
  refine qb_iast hX 14 rfl (kf_Model_20 hthis) ?_
  refine qb_aload_n hX 15 rfl rfl ?_
  refine qb_getR hX 16 rfl fl_Model_65 hthis rfl ?_
  refine qb_iconst hX 17 0 rfl (by decide) ?_
  refine qb_iconst hX 18 0 rfl (by decide) ?_
  refine qb_iast hX 19 rfl (kf_Model_21 hthis) ?_
  refine qb_iconst hX 20 0 rfl (by decide) ?_
  refine qb_istore_n hX 21 ([some (.ref (qx_ad X this)), some (.int 0)]) rfl (by decide) rfl ?_
  refine qb_join 139 (fun s1 => [none, none]) (fun s1 => []) ?_ ?_
  ·
    refine qb_loopw (0) (fun s2 => [some (.ref (qx_ad X this)), some (.int s2)]) (qw_s (qw_s (qw_0))) (fun s2 => ?_)
    refine qb_iload_n hX 22 rfl rfl ?_
    refine qb_aload_n hX 23 rfl rfl ?_
    refine qb_get hX 24 rfl fl_Model_148 hthis rfl (fun x3 => ?_)
    refine qb_icge hX 25 139 rfl (by decide) ?_ ?_
    ·
      exact qb_exit (fun σ h => qj_wk (ρ' := [none, none]) (qw_n (qw_n (qw_0))) h)
    ·
      refine qb_aload_n hX 26 rfl rfl ?_
      refine qb_getR hX 27 rfl fl_Model_56 hthis rfl ?_
      refine qb_iload_n hX 28 rfl rfl ?_
      refine qb_iconst hX 29 1 rfl (by decide) ?_
      refine qb_iadd hX 30 rfl ?_
      refine qb_aload_n hX 31 rfl rfl ?_
      refine qb_getR hX 32 rfl fl_Model_56 hthis rfl ?_
      refine qb_iload_n hX 33 rfl rfl ?_
      refine qb_iald hX 34 rfl (kf_Model_18 hthis) (fun x4 => ?_)
      refine qb_aload_n hX 35 rfl rfl ?_
      refine qb_getR hX 36 rfl fl_Model_32 hthis rfl ?_
      refine qb_iload_n hX 37 rfl rfl ?_
      refine qb_iald hX 38 rfl (kf_Model_8 hthis) (fun x5 => ?_)
      refine qb_iadd hX 39 rfl ?_
      refine qb_iast hX 40 rfl (kf_Model_18 hthis) ?_
      refine qb_aload_n hX 41 rfl rfl ?_
      refine qb_getR hX 42 rfl fl_Model_59 hthis rfl ?_
      refine qb_iload_n hX 43 rfl rfl ?_
      refine qb_iconst hX 44 1 rfl (by decide) ?_
      refine qb_iadd hX 45 rfl ?_
      refine qb_aload_n hX 46 rfl rfl ?_
      refine qb_getR hX 47 rfl fl_Model_59 hthis rfl ?_
      refine qb_iload_n hX 48 rfl rfl ?_
      refine qb_iald hX 49 rfl (kf_Model_19 hthis) (fun x6 => ?_)
      refine qb_aload_n hX 50 rfl rfl ?_
      refine qb_getR hX 51 rfl fl_Model_35 hthis rfl ?_
      refine qb_iload_n hX 52 rfl rfl ?_
      refine qb_iald hX 53 rfl (kf_Model_9 hthis) (fun x7 => ?_)
      refine qb_iadd hX 54 rfl ?_
      refine qb_iast hX 55 rfl (kf_Model_19 hthis) ?_
      refine qb_aload_n hX 56 rfl rfl ?_
      refine qb_getR hX 57 rfl fl_Model_62 hthis rfl ?_
      refine qb_iload_n hX 58 rfl rfl ?_
      refine qb_iconst hX 59 1 rfl (by decide) ?_
      refine qb_iadd hX 60 rfl ?_
      refine qb_aload_n hX 61 rfl rfl ?_
      refine qb_getR hX 62 rfl fl_Model_62 hthis rfl ?_
      refine qb_iload_n hX 63 rfl rfl ?_
      refine qb_iald hX 64 rfl (kf_Model_20 hthis) (fun x8 => ?_)
      refine qb_aload_n hX 65 rfl rfl ?_
      refine qb_getR hX 66 rfl fl_Model_38 hthis rfl ?_
      refine qb_iload_n hX 67 rfl rfl ?_
      refine qb_iald hX 68 rfl (kf_Model_10 hthis) (fun x9 => ?_)
      refine qb_iadd hX 69 rfl ?_
      refine qb_iast hX 70 rfl (kf_Model_20 hthis) ?_
      refine qb_aload_n hX 71 rfl rfl ?_
      refine qb_getR hX 72 rfl fl_Model_65 hthis rfl ?_
      refine qb_iload_n hX 73 rfl rfl ?_
      refine qb_iconst hX 74 1 rfl (by decide) ?_
      refine qb_iadd hX 75 rfl ?_
      refine qb_aload_n hX 76 rfl rfl ?_
      refine qb_getR hX 77 rfl fl_Model_38 hthis rfl ?_
      refine qb_iload_n hX 78 rfl rfl ?_
      refine qb_iald hX 79 rfl (kf_Model_10 hthis) (fun x10 => ?_)
      refine qb_join 132 (fun s11 => [some (.ref (qx_ad X this)), some (.int s2)]) (fun s11 => [.int s11, .int (s2 + 1), .ref (qx_ad X (qm_rf this 21))]) ?_ ?_
      ·
        refine qb_ifle hX 80 126 rfl (by decide) ?_ ?_
        ·
          refine qb_aload_n hX 86 rfl rfl ?_
          refine qb_getR hX 87 rfl fl_Model_65 hthis rfl ?_
          refine qb_iload_n hX 88 rfl rfl ?_
          refine qb_iald hX 89 rfl (kf_Model_21 hthis) (fun x12 => ?_)
          exact qb_exit (fun σ h => qj_wk (ρ' := [some (.ref (qx_ad X this)), some (.int s2)]) (qw_s (qw_s (qw_0))) h)
        ·
          refine qb_aload_n hX 81 rfl rfl ?_
          refine qb_getR hX 82 rfl fl_Model_38 hthis rfl ?_
          refine qb_iload_n hX 83 rfl rfl ?_
          refine qb_iald hX 84 rfl (kf_Model_10 hthis) (fun x13 => ?_)
          exact qb_exit (fun σ h => qj_goto hX 85 rfl (by decide) (qj_wk (ρ' := [some (.ref (qx_ad X this)), some (.int s2)]) (qw_s (qw_s (qw_0))) h))
      · intro s11
        refine qb_iast hX 90 rfl (kf_Model_21 hthis) ?_
        refine qb_iinc hX 91 1 (fun x14 => [some (.ref (qx_ad X this)), some (.int x14)]) rfl (by decide) (by decide) rfl (fun _ => rfl) (fun x14 => ?_)
        exact qb_exit (fun σ h => qj_goto hX 92 rfl (by decide) (qj_wk (ρ' := [some (.ref (qx_ad X this)), some (.int x14)]) (qw_s (qw_s (qw_0))) h))
  · intro s1
    exact qb_vret hX 93 rfl hR (fun _ h => h)
theorem jm_Model_laysSums {l : Launch} {G : qm_G} (hG : qm_GI G) (this : Nat) (hthis : (qm_kd this).1 = 19) : qm_MV l G jy_Model_laysSums prog_11_method_14_code 2 0 0 [.ref (G.1 this)] (jf_Model_laysSums this) :=
  qm_metV (by decide +kernel) jd_Model_laysSums (fun v hv => by simp only [List.mem_cons, List.not_mem_nil, or_false] at hv; rcases hv with rfl <;> rfl) (by exact Nat.le_of_ble_eq_true rfl) hG (fun X hl hg hX σ0 hR => by subst hl; subst hg; exact jb_Model_laysSums hX hR this hthis)
def jl_Model_lays : List qm_I := [(0, .aload_n 0, 1, 1), (1, .iconst 0, 1, 2), (2, .putfield 148, 3, 5), (5, .aload_n 0, 1, 6), (6, .iconst 0, 1, 7), (7, .putfield 155, 3, 10), (10, .aload_n 0, 1, 11), (11, .getfield 47, 3, 14), (14, .iconst 0, 1, 15), (15, .iconst 0, 1, 16), (16, .iastore, 1, 17), (17, .aload_n 0, 1, 18), (18, .getfield 50, 3, 21), (21, .iconst 0, 1, 22), (22, .iconst 0, 1, 23), (23, .iastore, 1, 24), (24, .iconst 0, 1, 25), (25, .istore_n 1, 1, 26), (26, .iload_n 1, 1, 27), (27, .aload_n 0, 1, 28), (28, .invokevirtual 140, 3, 31), (31, .if_icmp .ge 94, 3, 34), (34, .aload_n 0, 1, 35), (35, .getfield 53, 3, 38), (38, .iload_n 1, 1, 39), (39, .aload_n 0, 1, 40), (40, .getfield 148, 3, 43), (43, .iastore, 1, 44), (44, .aload_n 0, 1, 45), (45, .iload_n 1, 1, 46), (46, .iconst 0, 1, 47), (47, .invokevirtual 144, 3, 50), (50, .iconst 4, 1, 51), (51, .if_icmp .ne 44, 3, 54), (54, .aload_n 0, 1, 55), (55, .dup, 1, 56), (56, .getfield 155, 3, 59), (59, .iconst 1, 1, 60), (60, .iadd, 1, 61), (61, .putfield 155, 3, 64), (64, .aload_n 0, 1, 65), (65, .getfield 47, 3, 68), (68, .aload_n 0, 1, 69), (69, .getfield 155, 3, 72), (72, .aload_n 0, 1, 73), (73, .getfield 148, 3, 76), (76, .iastore, 1, 77), (77, .aload_n 0, 1, 78), (78, .getfield 50, 3, 81), (81, .aload_n 0, 1, 82), (82, .getfield 155, 3, 85), (85, .aload_n 0, 1, 86), (86, .iload_n 1, 1, 87), (87, .iconst 2, 1, 88), (88, .invokevirtual 144, 3, 91), (91, .iastore, 1, 92), (92, .goto 27, 3, 95), (95, .iconst 0, 1, 96), (96, .istore_n 2, 1, 97), (97, .iload_n 2, 1, 98), (98, .aload_n 0, 1, 99), (99, .iload_n 1, 1, 100), (100, .iconst 1, 1, 101), (101, .invokevirtual 144, 3, 104), (104, .if_icmp .ge 15, 3, 107), (107, .aload_n 0, 1, 108), (108, .iload_n 1, 1, 109), (109, .iload_n 2, 1, 110), (110, .invokevirtual 158, 3, 113), (113, .iinc 2 1, 3, 116), (116, .goto (-19), 3, 119), (119, .iinc 1 1, 3, 122), (122, .goto (-96), 3, 125), (125, .aload_n 0, 1, 126), (126, .dup, 1, 127), (127, .getfield 155, 3, 130), (130, .aload_n 0, 1, 131), (131, .invokevirtual 140, 3, 134), (134, .ifCond .ne 7, 3, 137), (137, .iconst 0, 1, 138), (138, .goto 4, 3, 141), (141, .iconst 1, 1, 142), (142, .iadd, 1, 143), (143, .putfield 155, 3, 146), (146, .aload_n 0, 1, 147), (147, .getfield 47, 3, 150), (150, .aload_n 0, 1, 151), (151, .getfield 155, 3, 154), (154, .aload_n 0, 1, 155), (155, .getfield 148, 3, 158), (158, .iastore, 1, 159), (159, .iconst 0, 1, 160), (160, .istore_n 1, 1, 161), (161, .iload_n 1, 1, 162), (162, .aload_n 0, 1, 163), (163, .getfield 148, 3, 166), (166, .if_icmp .ge 47, 3, 169), (169, .aload_n 0, 1, 170), (170, .getfield 44, 3, 173), (173, .iload_n 1, 1, 174), (174, .iload_n 1, 1, 175), (175, .iconst 1, 1, 176), (176, .iadd, 1, 177), (177, .aload_n 0, 1, 178), (178, .getfield 47, 3, 181), (181, .aload_n 0, 1, 182), (182, .getfield 41, 3, 185), (185, .iload_n 1, 1, 186), (186, .iaload, 1, 187), (187, .iconst 1, 1, 188), (188, .iadd, 1, 189), (189, .iaload, 1, 190), (190, .if_icmp .eq 11, 3, 193), (193, .aload_n 0, 1, 194), (194, .iload_n 1, 1, 195), (195, .invokevirtual 162, 3, 198), (198, .ifCond .eq 7, 3, 201), (201, .iconst 1, 1, 202), (202, .goto 4, 3, 205), (205, .iconst 0, 1, 206), (206, .bastore, 1, 207), (207, .iinc 1 1, 3, 210), (210, .goto (-49), 3, 213), (213, .aload_n 0, 1, 214), (214, .invokevirtual 166, 3, 217), (217, .return_, 1, 218)]
theorem jd_Model_lays : qm_D prog_11_method_12_code jl_Model_lays := qm_D_of (by decide +kernel)
noncomputable def jf_Model_lays (this : Nat) : qm_M Unit :=
  mB (mPt this 13 0) fun _ =>
  mB (mPt this 16 0) fun _ =>
  mB (mSt (qm_rf this 14) 0 0) fun _ =>
  mB (mSt (qm_rf this 15) 0 0) fun _ =>
  mB (α := Unit) (
    mW (S := Int32) (α := Unit) (fun s2 =>
      mB (jf_Model_blocks this) fun x3 =>
      if x3 ≤ s2 then
        mP (Sum.inr ())
      else
        mB (mGt this 13) fun x4 =>
        mB (mSt (qm_rf this 17) s2 x4) fun _ =>
        mB (jf_Model_of this s2 0) fun x5 =>
        mB (α := Unit) (
          if ¬ x5 = 4 then
            mW (S := Int32) (α := Unit) (fun s7 =>
              mB (jf_Model_of this s2 1) fun x8 =>
              if x8 ≤ s7 then
                mP (Sum.inr ())
              else
                mB (jf_Model_laysPiece this s2 s7) fun _ =>
                mB (mP (s7 + 1)) fun x9 =>
                mP (Sum.inl x9)) 0
          else
            mB (mGt this 16) fun x10 =>
            mB (mPt this 16 (x10 + 1)) fun _ =>
            mB (mGt this 16) fun x11 =>
            mB (mGt this 13) fun x12 =>
            mB (mSt (qm_rf this 14) x11 x12) fun _ =>
            mB (mGt this 16) fun x13 =>
            mB (jf_Model_of this s2 2) fun x14 =>
            mB (mSt (qm_rf this 15) x13 x14) fun _ =>
            mP ()) fun s6 =>
        mB (mP (s2 + 1)) fun x15 =>
        mP (Sum.inl x15)) 0) fun s1 =>
  mB (mGt this 16) fun x16 =>
  mB (jf_Model_blocks this) fun x17 =>
  mB (α := Int32) (
    if ¬ x17 = 0 then
      mP 1
    else
      mP 0) fun s18 =>
  mB (mPt this 16 (x16 + s18)) fun _ =>
  mB (mGt this 16) fun x19 =>
  mB (mGt this 13) fun x20 =>
  mB (mSt (qm_rf this 14) x19 x20) fun _ =>
  mB (α := Unit) (
    mW (S := Int32) (α := Unit) (fun s22 =>
      mB (mGt this 13) fun x23 =>
      if x23 ≤ s22 then
        mP (Sum.inr ())
      else
        mB (mLd (qm_rf this 11) s22) fun x24 =>
        mB (mLd (qm_rf this 14) (x24 + 1)) fun x25 =>
        mB (α := Int32) (
          mB (α := (Unit ⊕ Int32)) (
            if (s22 + 1) = x25 then
              mP (Sum.inl ())
            else
              mB (jf_Model_mayEnd this s22) fun x28 =>
              if x28 = 0 then
                mP (Sum.inr 0)
              else
                mP (Sum.inl ())) (Sum.elim (fun s27 =>
            mP 1) mP)) fun s26 =>
        mB (mSz (qm_rf this 12) s22 s26) fun _ =>
        mB (mP (s22 + 1)) fun x29 =>
        mP (Sum.inl x29)) 0) fun s21 =>
  mB (jf_Model_laysSums this) fun _ =>
  mP ()
set_option maxRecDepth 20000 in
set_option maxHeartbeats 4000000 in
theorem jb_Model_lays {X : qm_X} (hX : qm_ok X qr_Model prog_11_method_12_code 3 3 68 jl_Model_lays) {σ0 : qm_Mem} (hR : qm_RV X σ0) (this : Nat) (hthis : (qm_kd this).1 = 19) : qm_B X (jf_Model_lays this) 0 [some (.ref (qx_ad X this)), none, none] [] (fun _ σ1 => σ1 = σ0) := by
  unfold jf_Model_lays
  refine qb_aload_n hX 0 rfl rfl ?_
  refine qb_iconst hX 1 0 rfl (by decide) ?_
  refine qb_put hX 2 rfl fp_Model_148 hthis ?_
  refine qb_aload_n hX 3 rfl rfl ?_
  refine qb_iconst hX 4 0 rfl (by decide) ?_
  refine qb_put hX 5 rfl fp_Model_155 hthis ?_
  refine qb_aload_n hX 6 rfl rfl ?_
  refine qb_getR hX 7 rfl fl_Model_47 hthis rfl ?_
  refine qb_iconst hX 8 0 rfl (by decide) ?_
  refine qb_iconst hX 9 0 rfl (by decide) ?_
  refine qb_iast hX 10 rfl (kf_Model_14 hthis) ?_
  refine qb_aload_n hX 11 rfl rfl ?_
  refine qb_getR hX 12 rfl fl_Model_50 hthis rfl ?_
  refine qb_iconst hX 13 0 rfl (by decide) ?_
  refine qb_iconst hX 14 0 rfl (by decide) ?_
  refine qb_iast hX 15 rfl (kf_Model_15 hthis) ?_
  refine qb_iconst hX 16 0 rfl (by decide) ?_
  refine qb_istore_n hX 17 ([some (.ref (qx_ad X this)), some (.int 0), none]) rfl (by decide) rfl ?_
  refine qb_join 125 (fun s1 => [some (.ref (qx_ad X this)), none, none]) (fun s1 => []) ?_ ?_
  ·
    refine qb_loopw (0) (fun s2 => [some (.ref (qx_ad X this)), some (.int s2), none]) (qw_s (qw_s (qw_n (qw_0)))) (fun s2 => ?_)
    refine qb_iload_n hX 18 rfl rfl ?_
    refine qb_aload_n hX 19 rfl rfl ?_
    refine qb_callI hX 20 rfl cv_Model_140 (jm_Model_blocks (qk_GI hX) this  hthis ) (ci := 9) hthis ⟨rfl, rfl, rfl, by decide, by decide⟩ rfl (by exact Nat.le_of_ble_eq_true rfl) (fun x3 => ?_)
    refine qb_icge hX 21 125 rfl (by decide) ?_ ?_
    ·
      exact qb_exit (fun σ h => qj_wk (ρ' := [some (.ref (qx_ad X this)), none, none]) (qw_s (qw_n (qw_n (qw_0)))) h)
    ·
      refine qb_aload_n hX 22 rfl rfl ?_
      refine qb_getR hX 23 rfl fl_Model_53 hthis rfl ?_
      refine qb_iload_n hX 24 rfl rfl ?_
      refine qb_aload_n hX 25 rfl rfl ?_
      refine qb_get hX 26 rfl fl_Model_148 hthis rfl (fun x4 => ?_)
      refine qb_iast hX 27 rfl (kf_Model_17 hthis) ?_
      refine qb_aload_n hX 28 rfl rfl ?_
      refine qb_iload_n hX 29 rfl rfl ?_
      refine qb_iconst hX 30 0 rfl (by decide) ?_
      refine qb_callI hX 31 rfl cv_Model_144 (jm_Model_of (qk_GI hX) this s2 0 hthis ) (ci := 9) hthis ⟨rfl, rfl, rfl, by decide, by decide⟩ rfl (by exact Nat.le_of_ble_eq_true rfl) (fun x5 => ?_)
      refine qb_iconst hX 32 4 rfl (by decide) ?_
      refine qb_join 119 (fun s6 => [some (.ref (qx_ad X this)), some (.int s2), none]) (fun s6 => []) ?_ ?_
      ·
        refine qb_icne hX 33 95 rfl (by decide) ?_ ?_
        ·
          refine qb_iconst hX 57 0 rfl (by decide) ?_
          refine qb_istore_n hX 58 ([some (.ref (qx_ad X this)), some (.int s2), some (.int 0)]) rfl (by decide) rfl ?_
          refine qb_loopw (0) (fun s7 => [some (.ref (qx_ad X this)), some (.int s2), some (.int s7)]) (qw_s (qw_s (qw_s (qw_0)))) (fun s7 => ?_)
          refine qb_iload_n hX 59 rfl rfl ?_
          refine qb_aload_n hX 60 rfl rfl ?_
          refine qb_iload_n hX 61 rfl rfl ?_
          refine qb_iconst hX 62 1 rfl (by decide) ?_
          refine qb_callI hX 63 rfl cv_Model_144 (jm_Model_of (qk_GI hX) this s2 1 hthis ) (ci := 9) hthis ⟨rfl, rfl, rfl, by decide, by decide⟩ rfl (by exact Nat.le_of_ble_eq_true rfl) (fun x8 => ?_)
          refine qb_icge hX 64 119 rfl (by decide) ?_ ?_
          ·
            exact qb_exit (fun σ h => qj_wk (ρ' := [some (.ref (qx_ad X this)), some (.int s2), none]) (qw_s (qw_s (qw_n (qw_0)))) h)
          ·
            refine qb_aload_n hX 65 rfl rfl ?_
            refine qb_iload_n hX 66 rfl rfl ?_
            refine qb_iload_n hX 67 rfl rfl ?_
            refine qb_callV hX 68 rfl cv_Model_158 (jm_Model_laysPiece (qk_GI hX) this s2 s7 hthis ) (ci := 9) hthis ⟨rfl, rfl, rfl, by decide, by decide⟩ rfl (by exact Nat.le_of_ble_eq_true rfl) ?_
            refine qb_iinc hX 69 1 (fun x9 => [some (.ref (qx_ad X this)), some (.int s2), some (.int x9)]) rfl (by decide) (by decide) rfl (fun _ => rfl) (fun x9 => ?_)
            exact qb_exit (fun σ h => qj_goto hX 70 rfl (by decide) (qj_wk (ρ' := [some (.ref (qx_ad X this)), some (.int s2), some (.int x9)]) (qw_s (qw_s (qw_s (qw_0)))) h))
        ·
          refine qb_aload_n hX 34 rfl rfl ?_
          refine qb_dup hX 35 rfl rfl ?_
          refine qb_get hX 36 rfl fl_Model_155 hthis rfl (fun x10 => ?_)
          refine qb_iconst hX 37 1 rfl (by decide) ?_
          refine qb_iadd hX 38 rfl ?_
          refine qb_put hX 39 rfl fp_Model_155 hthis ?_
          refine qb_aload_n hX 40 rfl rfl ?_
          refine qb_getR hX 41 rfl fl_Model_47 hthis rfl ?_
          refine qb_aload_n hX 42 rfl rfl ?_
          refine qb_get hX 43 rfl fl_Model_155 hthis rfl (fun x11 => ?_)
          refine qb_aload_n hX 44 rfl rfl ?_
          refine qb_get hX 45 rfl fl_Model_148 hthis rfl (fun x12 => ?_)
          refine qb_iast hX 46 rfl (kf_Model_14 hthis) ?_
          refine qb_aload_n hX 47 rfl rfl ?_
          refine qb_getR hX 48 rfl fl_Model_50 hthis rfl ?_
          refine qb_aload_n hX 49 rfl rfl ?_
          refine qb_get hX 50 rfl fl_Model_155 hthis rfl (fun x13 => ?_)
          refine qb_aload_n hX 51 rfl rfl ?_
          refine qb_iload_n hX 52 rfl rfl ?_
          refine qb_iconst hX 53 2 rfl (by decide) ?_
          refine qb_callI hX 54 rfl cv_Model_144 (jm_Model_of (qk_GI hX) this s2 2 hthis ) (ci := 9) hthis ⟨rfl, rfl, rfl, by decide, by decide⟩ rfl (by exact Nat.le_of_ble_eq_true rfl) (fun x14 => ?_)
          refine qb_iast hX 55 rfl (kf_Model_15 hthis) ?_
          exact qb_exit (fun σ h => qj_goto hX 56 rfl (by decide) (qj_wk (ρ' := [some (.ref (qx_ad X this)), some (.int s2), none]) (qw_s (qw_s (qw_n (qw_0)))) h))
      · intro s6
        refine qb_iinc hX 71 1 (fun x15 => [some (.ref (qx_ad X this)), some (.int x15), none]) rfl (by decide) (by decide) rfl (fun _ => rfl) (fun x15 => ?_)
        exact qb_exit (fun σ h => qj_goto hX 72 rfl (by decide) (qj_wk (ρ' := [some (.ref (qx_ad X this)), some (.int x15), none]) (qw_s (qw_s (qw_n (qw_0)))) h))
  · intro s1
    refine qb_aload_n hX 73 rfl rfl ?_
    refine qb_dup hX 74 rfl rfl ?_
    refine qb_get hX 75 rfl fl_Model_155 hthis rfl (fun x16 => ?_)
    refine qb_aload_n hX 76 rfl rfl ?_
    refine qb_callI hX 77 rfl cv_Model_140 (jm_Model_blocks (qk_GI hX) this  hthis ) (ci := 9) hthis ⟨rfl, rfl, rfl, by decide, by decide⟩ rfl (by exact Nat.le_of_ble_eq_true rfl) (fun x17 => ?_)
    refine qb_join 142 (fun s18 => [some (.ref (qx_ad X this)), none, none]) (fun s18 => [.int s18, .int x16, .ref (qx_ad X this)]) ?_ ?_
    ·
      refine qb_ifne hX 78 141 rfl (by decide) ?_ ?_
      ·
        refine qb_iconst hX 81 1 rfl (by decide) ?_
        exact qb_exit (fun σ h => qj_wk (ρ' := [some (.ref (qx_ad X this)), none, none]) (qw_s (qw_n (qw_n (qw_0)))) h)
      ·
        refine qb_iconst hX 79 0 rfl (by decide) ?_
        exact qb_exit (fun σ h => qj_goto hX 80 rfl (by decide) (qj_wk (ρ' := [some (.ref (qx_ad X this)), none, none]) (qw_s (qw_n (qw_n (qw_0)))) h))
    · intro s18
      refine qb_iadd hX 82 rfl ?_
      refine qb_put hX 83 rfl fp_Model_155 hthis ?_
      refine qb_aload_n hX 84 rfl rfl ?_
      refine qb_getR hX 85 rfl fl_Model_47 hthis rfl ?_
      refine qb_aload_n hX 86 rfl rfl ?_
      refine qb_get hX 87 rfl fl_Model_155 hthis rfl (fun x19 => ?_)
      refine qb_aload_n hX 88 rfl rfl ?_
      refine qb_get hX 89 rfl fl_Model_148 hthis rfl (fun x20 => ?_)
      refine qb_iast hX 90 rfl (kf_Model_14 hthis) ?_
      refine qb_iconst hX 91 0 rfl (by decide) ?_
      refine qb_istore_n hX 92 ([some (.ref (qx_ad X this)), some (.int 0), none]) rfl (by decide) rfl ?_
      refine qb_join 213 (fun s21 => [some (.ref (qx_ad X this)), none, none]) (fun s21 => []) ?_ ?_
      ·
        refine qb_loopw (0) (fun s22 => [some (.ref (qx_ad X this)), some (.int s22), none]) (qw_s (qw_s (qw_n (qw_0)))) (fun s22 => ?_)
        refine qb_iload_n hX 93 rfl rfl ?_
        refine qb_aload_n hX 94 rfl rfl ?_
        refine qb_get hX 95 rfl fl_Model_148 hthis rfl (fun x23 => ?_)
        refine qb_icge hX 96 213 rfl (by decide) ?_ ?_
        ·
          exact qb_exit (fun σ h => qj_wk (ρ' := [some (.ref (qx_ad X this)), none, none]) (qw_s (qw_n (qw_n (qw_0)))) h)
        ·
          refine qb_aload_n hX 97 rfl rfl ?_
          refine qb_getR hX 98 rfl fl_Model_44 hthis rfl ?_
          refine qb_iload_n hX 99 rfl rfl ?_
          refine qb_iload_n hX 100 rfl rfl ?_
          refine qb_iconst hX 101 1 rfl (by decide) ?_
          refine qb_iadd hX 102 rfl ?_
          refine qb_aload_n hX 103 rfl rfl ?_
          refine qb_getR hX 104 rfl fl_Model_47 hthis rfl ?_
          refine qb_aload_n hX 105 rfl rfl ?_
          refine qb_getR hX 106 rfl fl_Model_41 hthis rfl ?_
          refine qb_iload_n hX 107 rfl rfl ?_
          refine qb_iald hX 108 rfl (kf_Model_11 hthis) (fun x24 => ?_)
          refine qb_iconst hX 109 1 rfl (by decide) ?_
          refine qb_iadd hX 110 rfl ?_
          refine qb_iald hX 111 rfl (kf_Model_14 hthis) (fun x25 => ?_)
          refine qb_join 206 (fun s26 => [some (.ref (qx_ad X this)), some (.int s22), none]) (fun s26 => [.int s26, .int s22, .ref (qx_ad X (qm_rf this 12))]) ?_ ?_
          ·
            refine qb_join2 201 (fun s27 => [some (.ref (qx_ad X this)), some (.int s22), none]) (fun s27 => [.int s22, .ref (qx_ad X (qm_rf this 12))]) ?_ ?_
            ·
              refine qb_iceq hX 112 201 rfl (by decide) ?_ ?_
              ·
                exact qb_exit (fun σ h => qj_wk (ρ' := [some (.ref (qx_ad X this)), some (.int s22), none]) (qw_s (qw_s (qw_n (qw_0)))) h)
              ·
                refine qb_aload_n hX 113 rfl rfl ?_
                refine qb_iload_n hX 114 rfl rfl ?_
                refine qb_callI hX 115 rfl cv_Model_162 (jm_Model_mayEnd (qk_GI hX) this s22 hthis ) (ci := 9) hthis ⟨rfl, rfl, rfl, by decide, by decide⟩ rfl (by exact Nat.le_of_ble_eq_true rfl) (fun x28 => ?_)
                refine qb_ifeq hX 116 205 rfl (by decide) ?_ ?_
                ·
                  refine qb_iconst hX 119 0 rfl (by decide) ?_
                  exact qb_exit (fun σ h => qj_wk (ρ' := [some (.ref (qx_ad X this)), some (.int s22), none]) (qw_s (qw_s (qw_n (qw_0)))) h)
                ·
                  exact qb_exit (fun σ h => qj_wk (ρ' := [some (.ref (qx_ad X this)), some (.int s22), none]) (qw_s (qw_s (qw_n (qw_0)))) h)
            · intro s27
              refine qb_iconst hX 117 1 rfl (by decide) ?_
              exact qb_exit (fun σ h => qj_goto hX 118 rfl (by decide) (qj_wk (ρ' := [some (.ref (qx_ad X this)), some (.int s22), none]) (qw_s (qw_s (qw_n (qw_0)))) h))
          · intro s26
            refine qb_zast hX 120 rfl (kf_Model_12 hthis) ?_
            refine qb_iinc hX 121 1 (fun x29 => [some (.ref (qx_ad X this)), some (.int x29), none]) rfl (by decide) (by decide) rfl (fun _ => rfl) (fun x29 => ?_)
            exact qb_exit (fun σ h => qj_goto hX 122 rfl (by decide) (qj_wk (ρ' := [some (.ref (qx_ad X this)), some (.int x29), none]) (qw_s (qw_s (qw_n (qw_0)))) h))
      · intro s21
        refine qb_aload_n hX 123 rfl rfl ?_
        refine qb_callV hX 124 rfl cv_Model_166 (jm_Model_laysSums (qk_GI hX) this  hthis ) (ci := 9) hthis ⟨rfl, rfl, rfl, by decide, by decide⟩ rfl (by exact Nat.le_of_ble_eq_true rfl) ?_
        exact qb_vret hX 125 rfl hR (fun _ h => h)
theorem jm_Model_lays {l : Launch} {G : qm_G} (hG : qm_GI G) (this : Nat) (hthis : (qm_kd this).1 = 19) : qm_MV l G jy_Model_lays prog_11_method_12_code 3 3 68 [.ref (G.1 this)] (jf_Model_lays this) :=
  qm_metV (by decide +kernel) jd_Model_lays (fun v hv => by simp only [List.mem_cons, List.not_mem_nil, or_false] at hv; rcases hv with rfl <;> rfl) (by exact Nat.le_of_ble_eq_true rfl) hG (fun X hl hg hX σ0 hR => by subst hl; subst hg; exact jb_Model_lays hX hR this hthis)
def jl_Model_endOf : List qm_I := [(0, .aload_n 0, 1, 1), (1, .getfield 47, 3, 4), (4, .iload_n 1, 1, 5), (5, .iconst 1, 1, 6), (6, .iadd, 1, 7), (7, .iaload, 1, 8), (8, .ireturn, 1, 9)]
theorem jd_Model_endOf : qm_D prog_11_method_15_code jl_Model_endOf := qm_D_of (by decide +kernel)
noncomputable def jf_Model_endOf (this : Nat) (p1 : Int32) : qm_M Int32 :=
  mB (mLd (qm_rf this 14) (p1 + 1)) fun x1 =>
  mP x1
set_option maxRecDepth 20000 in
set_option maxHeartbeats 4000000 in
theorem jb_Model_endOf {X : qm_X} (hX : qm_ok X qr_Model prog_11_method_15_code 2 0 0 jl_Model_endOf) {r0 : Int32} {σ0 : qm_Mem} (hR : qm_RI X r0 σ0 .int) (this : Nat) (p1 : Int32) (hthis : (qm_kd this).1 = 19) : qm_B X (jf_Model_endOf this p1) 0 [some (.ref (qx_ad X this)), some (.int p1)] [] (fun r σ1 => r = r0 ∧ σ1 = σ0) := by
  unfold jf_Model_endOf
  refine qb_aload_n hX 0 rfl rfl ?_
  refine qb_getR hX 1 rfl fl_Model_47 hthis rfl ?_
  refine qb_iload_n hX 2 rfl rfl ?_
  refine qb_iconst hX 3 1 rfl (by decide) ?_
  refine qb_iadd hX 4 rfl ?_
  refine qb_iald hX 5 rfl (kf_Model_14 hthis) (fun x1 => ?_)
  exact qb_iret hX 6 rfl hR (fun _ h => h)
theorem jm_Model_endOf {l : Launch} {G : qm_G} (hG : qm_GI G) (this : Nat) (p1 : Int32) (hthis : (qm_kd this).1 = 19) : qm_MI l G jy_Model_endOf prog_11_method_15_code 2 (some .int) 0 0 [.ref (G.1 this), .int p1] (jf_Model_endOf this p1) :=
  qm_metI (by decide +kernel) jd_Model_endOf (fun v hv => by simp only [List.mem_cons, List.not_mem_nil, or_false] at hv; rcases hv with rfl | rfl <;> rfl) (by exact Nat.le_of_ble_eq_true rfl) hG rfl (fun X hl hg hX r0 σ0 hR => by subst hl; subst hg; exact jb_Model_endOf hX hR this p1 hthis)
def jl_Model_isEnd : List qm_I := [(0, .iload_n 2, 1, 1), (1, .aload_n 0, 1, 2), (2, .getfield 47, 3, 5), (5, .iload_n 1, 1, 6), (6, .iaload, 1, 7), (7, .if_icmp .eq 14, 3, 10), (10, .aload_n 0, 1, 11), (11, .getfield 44, 3, 14), (14, .iload_n 2, 1, 15), (15, .iconst 1, 1, 16), (16, .isub, 1, 17), (17, .baload, 1, 18), (18, .ifCond .eq 7, 3, 21), (21, .iconst 1, 1, 22), (22, .goto 4, 3, 25), (25, .iconst 0, 1, 26), (26, .ireturn, 1, 27)]
theorem jd_Model_isEnd : qm_D prog_11_method_16_code jl_Model_isEnd := qm_D_of (by decide +kernel)
noncomputable def jf_Model_isEnd (this : Nat) (p1 : Int32) (p2 : Int32) : qm_M Int32 :=
  mB (mLd (qm_rf this 14) p1) fun x1 =>
  if p2 = x1 then
    mP 1
  else
    mB (mLd (qm_rf this 12) (p2 - 1)) fun x2 =>
    if x2 = 0 then
      mP 0
    else
      mP 1
set_option maxRecDepth 20000 in
set_option maxHeartbeats 4000000 in
theorem jb_Model_isEnd {X : qm_X} (hX : qm_ok X qr_Model prog_11_method_16_code 3 0 0 jl_Model_isEnd) {r0 : Int32} {σ0 : qm_Mem} (hR : qm_RI X r0 σ0 .boolean) (this : Nat) (p1 : Int32) (p2 : Int32) (hthis : (qm_kd this).1 = 19) : qm_B X (jf_Model_isEnd this p1 p2) 0 [some (.ref (qx_ad X this)), some (.int p1), some (.int p2)] [] (fun r σ1 => r = r0 ∧ σ1 = σ0) := by
  unfold jf_Model_isEnd
  refine qb_iload_n hX 0 rfl rfl ?_
  refine qb_aload_n hX 1 rfl rfl ?_
  refine qb_getR hX 2 rfl fl_Model_47 hthis rfl ?_
  refine qb_iload_n hX 3 rfl rfl ?_
  refine qb_iald hX 4 rfl (kf_Model_14 hthis) (fun x1 => ?_)
  refine qb_iceq hX 5 21 rfl (by decide) ?_ ?_
  ·
    refine qb_iconst hX 13 1 rfl (by decide) ?_
    refine qb_goto hX 14 (tgt := 26) rfl (by decide) ?_
    exact qb_zret1 hX 16 rfl hR (by decide) (fun _ h => h)
  ·
    refine qb_aload_n hX 6 rfl rfl ?_
    refine qb_getR hX 7 rfl fl_Model_44 hthis rfl ?_
    refine qb_iload_n hX 8 rfl rfl ?_
    refine qb_iconst hX 9 1 rfl (by decide) ?_
    refine qb_isub hX 10 rfl ?_
    refine qb_zald hX 11 rfl (kf_Model_12 hthis) (fun x2 => ?_)
    refine qb_ifeq hX 12 25 rfl (by decide) ?_ ?_
    ·
      refine qb_iconst hX 15 0 rfl (by decide) ?_
      exact qb_zret1 hX 16 rfl hR (by decide) (fun _ h => h)
    ·
      refine qb_iconst hX 13 1 rfl (by decide) ?_
      refine qb_goto hX 14 (tgt := 26) rfl (by decide) ?_
      exact qb_zret1 hX 16 rfl hR (by decide) (fun _ h => h)
theorem jm_Model_isEnd {l : Launch} {G : qm_G} (hG : qm_GI G) (this : Nat) (p1 : Int32) (p2 : Int32) (hthis : (qm_kd this).1 = 19) : qm_MI l G jy_Model_isEnd prog_11_method_16_code 3 (some .boolean) 0 0 [.ref (G.1 this), .int p1, .int p2] (jf_Model_isEnd this p1 p2) :=
  qm_metI (by decide +kernel) jd_Model_isEnd (fun v hv => by simp only [List.mem_cons, List.not_mem_nil, or_false] at hv; rcases hv with rfl | rfl | rfl <;> rfl) (by exact Nat.le_of_ble_eq_true rfl) hG rfl (fun X hl hg hX r0 σ0 hR => by subst hl; subst hg; exact jb_Model_isEnd hX hR this p1 p2 hthis)
def jl_Model_textOf : List qm_I := [(0, .iload_n 2, 1, 1), (1, .iload_n 1, 1, 2), (2, .if_icmp .ne 5, 3, 5), (5, .iconst 0, 1, 6), (6, .ireturn, 1, 7), (7, .aload_n 0, 1, 8), (8, .getfield 29, 3, 11), (11, .iload_n 1, 1, 12), (12, .iaload, 1, 13), (13, .ifCond .le 17, 3, 16), (16, .aload_n 0, 1, 17), (17, .aload_n 0, 1, 18), (18, .getfield 26, 3, 21), (21, .iload_n 1, 1, 22), (22, .iaload, 1, 23), (23, .iconst 3, 1, 24), (24, .invokevirtual 144, 3, 27), (27, .goto 4, 3, 30), (30, .iconst 0, 1, 31), (31, .istore_n 3, 1, 32), (32, .aload_n 0, 1, 33), (33, .getfield 56, 3, 36), (36, .iload_n 2, 1, 37), (37, .iaload, 1, 38), (38, .aload_n 0, 1, 39), (39, .getfield 56, 3, 42), (42, .iload_n 1, 1, 43), (43, .iaload, 1, 44), (44, .isub, 1, 45), (45, .aload_n 0, 1, 46), (46, .getfield 59, 3, 49), (49, .iload_n 2, 1, 50), (50, .iaload, 1, 51), (51, .iadd, 1, 52), (52, .aload_n 0, 1, 53), (53, .getfield 59, 3, 56), (56, .iload_n 1, 1, 57), (57, .iconst 1, 1, 58), (58, .iadd, 1, 59), (59, .iaload, 1, 60), (60, .isub, 1, 61), (61, .iload_n 3, 1, 62), (62, .iadd, 1, 63), (63, .ireturn, 1, 64)]
theorem jd_Model_textOf : qm_D prog_11_method_17_code jl_Model_textOf := qm_D_of (by decide +kernel)
noncomputable def jf_Model_textOf (this : Nat) (p1 : Int32) (p2 : Int32) : qm_M Int32 :=
  if ¬ p2 = p1 then
    mB (mLd (qm_rf this 7) p1) fun x1 =>
    mB (α := Int32) (
      if x1 ≤ 0 then
        mP 0
      else
        mB (mLd (qm_rf this 6) p1) fun x3 =>
        mB (jf_Model_of this x3 3) fun x4 =>
        mP x4) fun s2 =>
    mB (mLd (qm_rf this 18) p2) fun x5 =>
    mB (mLd (qm_rf this 18) p1) fun x6 =>
    mB (mLd (qm_rf this 19) p2) fun x7 =>
    mB (mLd (qm_rf this 19) (p1 + 1)) fun x8 =>
    mP ((((x5 - x6) + x7) - x8) + s2)
  else
    mP 0
set_option maxRecDepth 20000 in
set_option maxHeartbeats 4000000 in
theorem jb_Model_textOf {X : qm_X} (hX : qm_ok X qr_Model prog_11_method_17_code 4 1 22 jl_Model_textOf) {r0 : Int32} {σ0 : qm_Mem} (hR : qm_RI X r0 σ0 .int) (this : Nat) (p1 : Int32) (p2 : Int32) (hthis : (qm_kd this).1 = 19) : qm_B X (jf_Model_textOf this p1 p2) 0 [some (.ref (qx_ad X this)), some (.int p1), some (.int p2), none] [] (fun r σ1 => r = r0 ∧ σ1 = σ0) := by
  unfold jf_Model_textOf
  refine qb_iload_n hX 0 rfl rfl ?_
  refine qb_iload_n hX 1 rfl rfl ?_
  refine qb_icne hX 2 7 rfl (by decide) ?_ ?_
  ·
    refine qb_aload_n hX 5 rfl rfl ?_
    refine qb_getR hX 6 rfl fl_Model_29 hthis rfl ?_
    refine qb_iload_n hX 7 rfl rfl ?_
    refine qb_iald hX 8 rfl (kf_Model_7 hthis) (fun x1 => ?_)
    refine qb_join 31 (fun s2 => [some (.ref (qx_ad X this)), some (.int p1), some (.int p2), none]) (fun s2 => [.int s2]) ?_ ?_
    ·
      refine qb_ifle hX 9 30 rfl (by decide) ?_ ?_
      ·
        refine qb_iconst hX 18 0 rfl (by decide) ?_
        exact qb_exit (fun σ h => qj_wk (ρ' := [some (.ref (qx_ad X this)), some (.int p1), some (.int p2), none]) (qw_s (qw_s (qw_s (qw_n (qw_0))))) h)
      ·
        refine qb_aload_n hX 10 rfl rfl ?_
        refine qb_aload_n hX 11 rfl rfl ?_
        refine qb_getR hX 12 rfl fl_Model_26 hthis rfl ?_
        refine qb_iload_n hX 13 rfl rfl ?_
        refine qb_iald hX 14 rfl (kf_Model_6 hthis) (fun x3 => ?_)
        refine qb_iconst hX 15 3 rfl (by decide) ?_
        refine qb_callI hX 16 rfl cv_Model_144 (jm_Model_of (qk_GI hX) this x3 3 hthis ) (ci := 9) hthis ⟨rfl, rfl, rfl, by decide, by decide⟩ rfl (by exact Nat.le_of_ble_eq_true rfl) (fun x4 => ?_)
        exact qb_exit (fun σ h => qj_goto hX 17 rfl (by decide) (qj_wk (ρ' := [some (.ref (qx_ad X this)), some (.int p1), some (.int p2), none]) (qw_s (qw_s (qw_s (qw_n (qw_0))))) h))
    · intro s2
      refine qb_istore_n hX 19 ([some (.ref (qx_ad X this)), some (.int p1), some (.int p2), some (.int s2)]) rfl (by decide) rfl ?_
      refine qb_aload_n hX 20 rfl rfl ?_
      refine qb_getR hX 21 rfl fl_Model_56 hthis rfl ?_
      refine qb_iload_n hX 22 rfl rfl ?_
      refine qb_iald hX 23 rfl (kf_Model_18 hthis) (fun x5 => ?_)
      refine qb_aload_n hX 24 rfl rfl ?_
      refine qb_getR hX 25 rfl fl_Model_56 hthis rfl ?_
      refine qb_iload_n hX 26 rfl rfl ?_
      refine qb_iald hX 27 rfl (kf_Model_18 hthis) (fun x6 => ?_)
      refine qb_isub hX 28 rfl ?_
      refine qb_aload_n hX 29 rfl rfl ?_
      refine qb_getR hX 30 rfl fl_Model_59 hthis rfl ?_
      refine qb_iload_n hX 31 rfl rfl ?_
      refine qb_iald hX 32 rfl (kf_Model_19 hthis) (fun x7 => ?_)
      refine qb_iadd hX 33 rfl ?_
      refine qb_aload_n hX 34 rfl rfl ?_
      refine qb_getR hX 35 rfl fl_Model_59 hthis rfl ?_
      refine qb_iload_n hX 36 rfl rfl ?_
      refine qb_iconst hX 37 1 rfl (by decide) ?_
      refine qb_iadd hX 38 rfl ?_
      refine qb_iald hX 39 rfl (kf_Model_19 hthis) (fun x8 => ?_)
      refine qb_isub hX 40 rfl ?_
      refine qb_iload_n hX 41 rfl rfl ?_
      refine qb_iadd hX 42 rfl ?_
      exact qb_iret hX 43 rfl hR (fun _ h => h)
  ·
    refine qb_iconst hX 3 0 rfl (by decide) ?_
    exact qb_iret hX 4 rfl hR (fun _ h => h)
theorem jm_Model_textOf {l : Launch} {G : qm_G} (hG : qm_GI G) (this : Nat) (p1 : Int32) (p2 : Int32) (hthis : (qm_kd this).1 = 19) : qm_MI l G jy_Model_textOf prog_11_method_17_code 4 (some .int) 1 22 [.ref (G.1 this), .int p1, .int p2] (jf_Model_textOf this p1 p2) :=
  qm_metI (by decide +kernel) jd_Model_textOf (fun v hv => by simp only [List.mem_cons, List.not_mem_nil, or_false] at hv; rcases hv with rfl | rfl | rfl <;> rfl) (by exact Nat.le_of_ble_eq_true rfl) hG rfl (fun X hl hg hX r0 σ0 hR => by subst hl; subst hg; exact jb_Model_textOf hX hR this p1 p2 hthis)
def jl_Model_ownOf : List qm_I := [(0, .aload_n 0, 1, 1), (1, .getfield 62, 3, 4), (4, .iload_n 2, 1, 5), (5, .iaload, 1, 6), (6, .aload_n 0, 1, 7), (7, .getfield 62, 3, 10), (10, .iload_n 1, 1, 11), (11, .iaload, 1, 12), (12, .isub, 1, 13), (13, .ireturn, 1, 14)]
theorem jd_Model_ownOf : qm_D prog_11_method_18_code jl_Model_ownOf := qm_D_of (by decide +kernel)
noncomputable def jf_Model_ownOf (this : Nat) (p1 : Int32) (p2 : Int32) : qm_M Int32 :=
  mB (mLd (qm_rf this 20) p2) fun x1 =>
  mB (mLd (qm_rf this 20) p1) fun x2 =>
  mP (x1 - x2)
set_option maxRecDepth 20000 in
set_option maxHeartbeats 4000000 in
theorem jb_Model_ownOf {X : qm_X} (hX : qm_ok X qr_Model prog_11_method_18_code 3 0 0 jl_Model_ownOf) {r0 : Int32} {σ0 : qm_Mem} (hR : qm_RI X r0 σ0 .int) (this : Nat) (p1 : Int32) (p2 : Int32) (hthis : (qm_kd this).1 = 19) : qm_B X (jf_Model_ownOf this p1 p2) 0 [some (.ref (qx_ad X this)), some (.int p1), some (.int p2)] [] (fun r σ1 => r = r0 ∧ σ1 = σ0) := by
  unfold jf_Model_ownOf
  refine qb_aload_n hX 0 rfl rfl ?_
  refine qb_getR hX 1 rfl fl_Model_62 hthis rfl ?_
  refine qb_iload_n hX 2 rfl rfl ?_
  refine qb_iald hX 3 rfl (kf_Model_20 hthis) (fun x1 => ?_)
  refine qb_aload_n hX 4 rfl rfl ?_
  refine qb_getR hX 5 rfl fl_Model_62 hthis rfl ?_
  refine qb_iload_n hX 6 rfl rfl ?_
  refine qb_iald hX 7 rfl (kf_Model_20 hthis) (fun x2 => ?_)
  refine qb_isub hX 8 rfl ?_
  exact qb_iret hX 9 rfl hR (fun _ h => h)
theorem jm_Model_ownOf {l : Launch} {G : qm_G} (hG : qm_GI G) (this : Nat) (p1 : Int32) (p2 : Int32) (hthis : (qm_kd this).1 = 19) : qm_MI l G jy_Model_ownOf prog_11_method_18_code 3 (some .int) 0 0 [.ref (G.1 this), .int p1, .int p2] (jf_Model_ownOf this p1 p2) :=
  qm_metI (by decide +kernel) jd_Model_ownOf (fun v hv => by simp only [List.mem_cons, List.not_mem_nil, or_false] at hv; rcases hv with rfl | rfl | rfl <;> rfl) (by exact Nat.le_of_ble_eq_true rfl) hG rfl (fun X hl hg hX r0 σ0 hR => by subst hl; subst hg; exact jb_Model_ownOf hX hR this p1 p2 hthis)
