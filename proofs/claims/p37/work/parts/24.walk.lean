def jl_Teller_readNumber : List qm_I := [(0, .aload_n 0, 1, 1), (1, .getfield 42, 3, 4), (4, .iconst (-1), 1, 5), (5, .if_icmp .eq 5, 3, 8), (8, .iconst 0, 1, 9), (9, .ireturn, 1, 10), (10, .aload_n 0, 1, 11), (11, .invokevirtual 48, 3, 14), (14, .iconst 1, 1, 15), (15, .if_icmp .eq 14, 3, 18), (18, .aload_n 0, 1, 19), (19, .aload_n 0, 1, 20), (20, .invokevirtual 55, 3, 23), (23, .iconst 1, 1, 24), (24, .invokevirtual 58, 3, 27), (27, .iconst 0, 1, 28), (28, .ireturn, 1, 29), (29, .aload_n 0, 1, 30), (30, .getfield 29, 3, 33), (33, .aload_n 0, 1, 34), (34, .getfield 38, 3, 37), (37, .invokestatic 73, 3, 40), (40, .istore_n 3, 1, 41), (41, .iload_n 3, 1, 42), (42, .iload_n 1, 1, 43), (43, .if_icmp .lt 8, 3, 46), (46, .iload_n 3, 1, 47), (47, .iload_n 2, 1, 48), (48, .if_icmp .le 14, 3, 51), (51, .aload_n 0, 1, 52), (52, .aload_n 0, 1, 53), (53, .invokevirtual 55, 3, 56), (56, .iconst 2, 1, 57), (57, .invokevirtual 58, 3, 60), (60, .iconst 0, 1, 61), (61, .ireturn, 1, 62), (62, .aload_n 0, 1, 63), (63, .dup, 1, 64), (64, .getfield 38, 3, 67), (67, .iconst 1, 1, 68), (68, .iadd, 1, 69), (69, .putfield 38, 3, 72), (72, .iload_n 3, 1, 73), (73, .ireturn, 1, 74)]
theorem jd_Teller_readNumber : qm_D prog_8_method_16_code jl_Teller_readNumber := qm_D_of (by decide +kernel)
noncomputable def jf_Teller_readNumber (this : Nat) (p1 : Int32) (p2 : Int32) : qm_M Int32 :=
  mB (mGt this 6) fun x1 =>
  if x1 = (-1) then
    mB (jf_Teller_sign this) fun x2 =>
    if x2 = 1 then
      mB (mGt this 5) fun x3 =>
      mB (jf_Top_at (qm_rf this 4) x3) fun x4 =>
      mB (α := (Unit ⊕ Int32)) (
        if x4 < p1 then
          mP (Sum.inl ())
        else
          if x4 ≤ p2 then
            mB (mGt this 5) fun x6 =>
            mB (mPt this 5 (x6 + 1)) fun _ =>
            mP (Sum.inr x4)
          else
            mP (Sum.inl ())) (Sum.elim (fun s5 =>
        mB (jf_Teller_place this) fun x7 =>
        mB (jf_Teller_wrong this x7 2) fun _ =>
        mP 0) mP)
    else
      mB (jf_Teller_place this) fun x8 =>
      mB (jf_Teller_wrong this x8 1) fun _ =>
      mP 0
  else
    mP 0
set_option maxRecDepth 20000 in
set_option maxHeartbeats 4000000 in
theorem jb_Teller_readNumber {X : qm_X} (hX : qm_ok X qr_Teller prog_8_method_16_code 4 1 22 jl_Teller_readNumber) {r0 : Int32} {σ0 : qm_Mem} (hR : qm_RI X r0 σ0 .int) (this : Nat) (p1 : Int32) (p2 : Int32) (hthis : (qm_kd this).1 = 16) : qm_B X (jf_Teller_readNumber this p1 p2) 0 [some (.ref (qx_ad X this)), some (.int p1), some (.int p2), none] [] (fun r σ1 => r = r0 ∧ σ1 = σ0) := by
  unfold jf_Teller_readNumber
  refine qb_aload_n hX 0 rfl rfl ?_
  refine qb_get hX 1 rfl fl_Teller_42 hthis rfl (fun x1 => ?_)
  refine qb_iconst hX 2 (-1) rfl (by decide) ?_
  refine qb_iceq hX 3 10 rfl (by decide) ?_ ?_
  ·
    refine qb_aload_n hX 6 rfl rfl ?_
    refine qb_callI hX 7 rfl cv_Teller_48 (jm_Teller_sign (qk_GI hX) this  hthis ) (ci := 6) hthis ⟨rfl, rfl, rfl, by decide, by decide⟩ rfl (by exact Nat.le_of_ble_eq_true rfl) (fun x2 => ?_)
    refine qb_iconst hX 8 1 rfl (by decide) ?_
    refine qb_iceq hX 9 29 rfl (by decide) ?_ ?_
    ·
      refine qb_aload_n hX 17 rfl rfl ?_
      refine qb_getR hX 18 rfl fl_Teller_29 hthis rfl ?_
      refine qb_aload_n hX 19 rfl rfl ?_
      refine qb_get hX 20 rfl fl_Teller_38 hthis rfl (fun x3 => ?_)
      refine qb_calNI hX 21 rfl cv_Teller_73 (jm_Top_at (qk_GI hX) (qm_rf this 4) x3 (kf_Teller_4 hthis)) ⟨rfl, by decide, by decide⟩ rfl (by exact Nat.le_of_ble_eq_true rfl) (fun x4 => ?_)
      refine qb_istore_n hX 22 ([some (.ref (qx_ad X this)), some (.int p1), some (.int p2), some (.int x4)]) rfl (by decide) rfl ?_
      refine qb_iload_n hX 23 rfl rfl ?_
      refine qb_iload_n hX 24 rfl rfl ?_
      refine qb_join2 51 (fun s5 => [some (.ref (qx_ad X this)), none, none, none]) (fun s5 => []) ?_ ?_
      ·
        refine qb_iclt hX 25 51 rfl (by decide) ?_ ?_
        ·
          exact qb_exit (fun σ h => qj_wk (ρ' := [some (.ref (qx_ad X this)), none, none, none]) (qw_s (qw_n (qw_n (qw_n (qw_0))))) h)
        ·
          refine qb_iload_n hX 26 rfl rfl ?_
          refine qb_iload_n hX 27 rfl rfl ?_
          refine qb_icle hX 28 62 rfl (by decide) ?_ ?_
          ·
            refine qb_aload_n hX 36 rfl rfl ?_
            refine qb_dup hX 37 rfl rfl ?_
            refine qb_get hX 38 rfl fl_Teller_38 hthis rfl (fun x6 => ?_)
            refine qb_iconst hX 39 1 rfl (by decide) ?_
            refine qb_iadd hX 40 rfl ?_
            refine qb_put hX 41 rfl fp_Teller_38 hthis ?_
            refine qb_iload_n hX 42 rfl rfl ?_
            exact qb_iret hX 43 rfl hR (fun _ h => h)
          ·
            exact qb_exit (fun σ h => qj_wk (ρ' := [some (.ref (qx_ad X this)), none, none, none]) (qw_s (qw_n (qw_n (qw_n (qw_0))))) h)
      · intro s5
        refine qb_aload_n hX 29 rfl rfl ?_
        refine qb_aload_n hX 30 rfl rfl ?_
        refine qb_callI hX 31 rfl cv_Teller_55 (jm_Teller_place (qk_GI hX) this  hthis ) (ci := 6) hthis ⟨rfl, rfl, rfl, by decide, by decide⟩ rfl (by exact Nat.le_of_ble_eq_true rfl) (fun x7 => ?_)
        refine qb_iconst hX 32 2 rfl (by decide) ?_
        refine qb_callV hX 33 rfl cv_Teller_58 (jm_Teller_wrong (qk_GI hX) this x7 2 hthis ) (ci := 6) hthis ⟨rfl, rfl, rfl, by decide, by decide⟩ rfl (by exact Nat.le_of_ble_eq_true rfl) ?_
        refine qb_iconst hX 34 0 rfl (by decide) ?_
        exact qb_iret hX 35 rfl hR (fun _ h => h)
    ·
      refine qb_aload_n hX 10 rfl rfl ?_
      refine qb_aload_n hX 11 rfl rfl ?_
      refine qb_callI hX 12 rfl cv_Teller_55 (jm_Teller_place (qk_GI hX) this  hthis ) (ci := 6) hthis ⟨rfl, rfl, rfl, by decide, by decide⟩ rfl (by exact Nat.le_of_ble_eq_true rfl) (fun x8 => ?_)
      refine qb_iconst hX 13 1 rfl (by decide) ?_
      refine qb_callV hX 14 rfl cv_Teller_58 (jm_Teller_wrong (qk_GI hX) this x8 1 hthis ) (ci := 6) hthis ⟨rfl, rfl, rfl, by decide, by decide⟩ rfl (by exact Nat.le_of_ble_eq_true rfl) ?_
      refine qb_iconst hX 15 0 rfl (by decide) ?_
      exact qb_iret hX 16 rfl hR (fun _ h => h)
  ·
    refine qb_iconst hX 4 0 rfl (by decide) ?_
    exact qb_iret hX 5 rfl hR (fun _ h => h)
theorem jm_Teller_readNumber {l : Launch} {G : qm_G} (hG : qm_GI G) (this : Nat) (p1 : Int32) (p2 : Int32) (hthis : (qm_kd this).1 = 16) : qm_MI l G jy_Teller_readNumber prog_8_method_16_code 4 (some .int) 1 22 [.ref (G.1 this), .int p1, .int p2] (jf_Teller_readNumber this p1 p2) :=
  qm_metI (by decide +kernel) jd_Teller_readNumber (fun v hv => by simp only [List.mem_cons, List.not_mem_nil, or_false] at hv; rcases hv with rfl | rfl | rfl <;> rfl) (by exact Nat.le_of_ble_eq_true rfl) hG rfl (fun X hl hg hX r0 σ0 hR => by subst hl; subst hg; exact jb_Teller_readNumber hX hR this p1 p2 hthis)
def jl_Teller_readSetting : List qm_I := [(0, .aload_n 0, 1, 1), (1, .iload_n 1, 1, 2), (2, .iload_n 2, 1, 3), (3, .invokevirtual 117, 3, 6), (6, .aload_n 0, 1, 7), (7, .getstatic 120, 3, 10), (10, .iload_n 1, 1, 11), (11, .invokestatic 73, 3, 14), (14, .getstatic 123, 3, 17), (17, .iload_n 1, 1, 18), (18, .invokestatic 73, 3, 21), (21, .invokevirtual 126, 3, 24), (24, .istore_n 3, 1, 25), (25, .aload_n 0, 1, 26), (26, .getfield 42, 3, 29), (29, .iconst (-1), 1, 30), (30, .if_icmp .ne 12, 3, 33), (33, .aload_n 0, 1, 34), (34, .getfield 18, 3, 37), (37, .iload_n 1, 1, 38), (38, .iload_n 3, 1, 39), (39, .invokevirtual 129, 3, 42), (42, .return_, 1, 43)]
theorem jd_Teller_readSetting : qm_D prog_8_method_9_code jl_Teller_readSetting := qm_D_of (by decide +kernel)
noncomputable def jf_Teller_readSetting (this : Nat) (p1 : Int32) (p2 : Int32) : qm_M Unit :=
  mB (jf_Teller_tellOnce this p1 p2) fun _ =>
  mB (jf_Top_at 406 p1) fun x1 =>
  mB (jf_Top_at 407 p1) fun x2 =>
  mB (jf_Teller_readNumber this x1 x2) fun x3 =>
  mB (mGt this 6) fun x4 =>
  if ¬ x4 = (-1) then
    mP ()
  else
    mB (jf_Run_put (qm_rf this 1) p1 x3) fun _ =>
    mP ()
set_option maxRecDepth 20000 in
set_option maxHeartbeats 4000000 in
theorem jb_Teller_readSetting {X : qm_X} (hX : qm_ok X qr_Teller prog_8_method_9_code 4 2 45 jl_Teller_readSetting) {σ0 : qm_Mem} (hR : qm_RV X σ0) (this : Nat) (p1 : Int32) (p2 : Int32) (hthis : (qm_kd this).1 = 16) : qm_B X (jf_Teller_readSetting this p1 p2) 0 [some (.ref (qx_ad X this)), some (.int p1), some (.int p2), none] [] (fun _ σ1 => σ1 = σ0) := by
  unfold jf_Teller_readSetting
  refine qb_aload_n hX 0 rfl rfl ?_
  refine qb_iload_n hX 1 rfl rfl ?_
  refine qb_iload_n hX 2 rfl rfl ?_
  refine qb_callV hX 3 rfl cv_Teller_117 (jm_Teller_tellOnce (qk_GI hX) this p1 p2 hthis ) (ci := 6) hthis ⟨rfl, rfl, rfl, by decide, by decide⟩ rfl (by exact Nat.le_of_ble_eq_true rfl) ?_
  refine qb_aload_n hX 4 rfl rfl ?_
  refine qb_getsN hX 5 (n := "SETTING_LEAST") 406 rfl (by decide +kernel) (by decide +kernel) ?_
  refine qb_iload_n hX 6 rfl rfl ?_
  refine qb_calNI hX 7 rfl cv_Teller_73 (jm_Top_at (qk_GI hX) 406 p1 (rfl : (qm_kd 406).1 = 1)) ⟨rfl, by decide, by decide⟩ rfl (by exact Nat.le_of_ble_eq_true rfl) (fun x1 => ?_)
  refine qb_getsN hX 8 (n := "SETTING_MOST") 407 rfl (by decide +kernel) (by decide +kernel) ?_
  refine qb_iload_n hX 9 rfl rfl ?_
  refine qb_calNI hX 10 rfl cv_Teller_73 (jm_Top_at (qk_GI hX) 407 p1 (rfl : (qm_kd 407).1 = 1)) ⟨rfl, by decide, by decide⟩ rfl (by exact Nat.le_of_ble_eq_true rfl) (fun x2 => ?_)
  refine qb_callI hX 11 rfl cv_Teller_126 (jm_Teller_readNumber (qk_GI hX) this x1 x2 hthis ) (ci := 6) hthis ⟨rfl, rfl, rfl, by decide, by decide⟩ rfl (by exact Nat.le_of_ble_eq_true rfl) (fun x3 => ?_)
  refine qb_istore_n hX 12 ([some (.ref (qx_ad X this)), some (.int p1), some (.int p2), some (.int x3)]) rfl (by decide) rfl ?_
  refine qb_aload_n hX 13 rfl rfl ?_
  refine qb_get hX 14 rfl fl_Teller_42 hthis rfl (fun x4 => ?_)
  refine qb_iconst hX 15 (-1) rfl (by decide) ?_
  refine qb_icne hX 16 42 rfl (by decide) ?_ ?_
  ·
    exact qb_vret hX 22 rfl hR (fun _ h => h)
  ·
    refine qb_aload_n hX 17 rfl rfl ?_
    refine qb_getR hX 18 rfl fl_Teller_18 hthis rfl ?_
    refine qb_iload_n hX 19 rfl rfl ?_
    refine qb_iload_n hX 20 rfl rfl ?_
    refine qb_callV hX 21 rfl cv_Teller_129 (jm_Run_put (qk_GI hX) (qm_rf this 1) p1 x3 (kf_Teller_1 hthis) ) (ci := 4) (kf_Teller_1 hthis) ⟨rfl, rfl, rfl, by decide, by decide⟩ rfl (by exact Nat.le_of_ble_eq_true rfl) ?_
    exact qb_vret hX 22 rfl hR (fun _ h => h)
theorem jm_Teller_readSetting {l : Launch} {G : qm_G} (hG : qm_GI G) (this : Nat) (p1 : Int32) (p2 : Int32) (hthis : (qm_kd this).1 = 16) : qm_MV l G jy_Teller_readSetting prog_8_method_9_code 4 2 45 [.ref (G.1 this), .int p1, .int p2] (jf_Teller_readSetting this p1 p2) :=
  qm_metV (by decide +kernel) jd_Teller_readSetting (fun v hv => by simp only [List.mem_cons, List.not_mem_nil, or_false] at hv; rcases hv with rfl | rfl | rfl <;> rfl) (by exact Nat.le_of_ble_eq_true rfl) hG (fun X hl hg hX σ0 hR => by subst hl; subst hg; exact jb_Teller_readSetting hX hR this p1 p2 hthis)
def jl_Teller_mostHigh : List qm_I := [(0, .iload_n 0, 1, 1), (1, .tableswitch 41 1 4 #[31, 35, 41, 38], 31, 32), (32, .sipush 200, 3, 35), (35, .ireturn, 1, 36), (36, .bipush 30, 2, 38), (38, .ireturn, 1, 39), (39, .bipush 60, 2, 41), (41, .ireturn, 1, 42), (42, .bipush 9, 2, 44), (44, .ireturn, 1, 45)]
theorem jd_Teller_mostHigh : qm_D prog_8_method_11_code jl_Teller_mostHigh := qm_D_of (by decide +kernel)
noncomputable def jf_Teller_mostHigh (p1 : Int32) : qm_M Int32 :=
  if p1 = 1 then
    mP 200
  else
  if p1 = 2 then
    mP 30
  else
  if p1 = 3 then
    mP 9
  else
  if p1 = 4 then
    mP 60
  else
  mP 9
set_option maxRecDepth 20000 in
set_option maxHeartbeats 4000000 in
theorem jb_Teller_mostHigh {X : qm_X} (hX : qm_ok X qr_Teller prog_8_method_11_code 1 0 0 jl_Teller_mostHigh) {r0 : Int32} {σ0 : qm_Mem} (hR : qm_RI X r0 σ0 .int) (p1 : Int32)  : qm_B X (jf_Teller_mostHigh p1) 0 [some (.int p1)] [] (fun r σ1 => r = r0 ∧ σ1 = σ0) := by
  unfold jf_Teller_mostHigh
  refine qb_iload_n hX 0 rfl rfl ?_
  refine qb_swc 1 ?_ (fun h0 => ?_)
  ·
    refine qb_tin hX 1 32 rfl (by decide) (by decide) rfl (by decide) ?_
    refine qb_sipush hX 2 200 rfl (by decide) ?_
    exact qb_iret hX 3 rfl hR (fun _ h => h)
  refine qb_swc 2 ?_ (fun h1 => ?_)
  ·
    refine qb_tin hX 1 36 rfl (by decide) (by decide) rfl (by decide) ?_
    refine qb_bipush hX 4 30 rfl (by decide) ?_
    exact qb_iret hX 5 rfl hR (fun _ h => h)
  refine qb_swc 3 ?_ (fun h2 => ?_)
  ·
    refine qb_tin hX 1 42 rfl (by decide) (by decide) rfl (by decide) ?_
    refine qb_bipush hX 8 9 rfl (by decide) ?_
    exact qb_iret hX 9 rfl hR (fun _ h => h)
  refine qb_swc 4 ?_ (fun h3 => ?_)
  ·
    refine qb_tin hX 1 39 rfl (by decide) (by decide) rfl (by decide) ?_
    refine qb_bipush hX 6 60 rfl (by decide) ?_
    exact qb_iret hX 7 rfl hR (fun _ h => h)
  refine qb_tout hX 1 42 rfl (by have g0 := lv_neT (a := 1) h0 (by decide); have g1 := lv_neT (a := 2) h1 (by decide); have g2 := lv_neT (a := 3) h2 (by decide); have g3 := lv_neT (a := 4) h3 (by decide); omega) (by decide) ?_
  refine qb_bipush hX 8 9 rfl (by decide) ?_
  exact qb_iret hX 9 rfl hR (fun _ h => h)
theorem jm_Teller_mostHigh {l : Launch} {G : qm_G} (hG : qm_GI G) (p1 : Int32)  : qm_MI l G jy_Teller_mostHigh prog_8_method_11_code 1 (some .int) 0 0 [.int p1] (jf_Teller_mostHigh p1) :=
  qm_metI (by decide +kernel) jd_Teller_mostHigh (fun v hv => by simp only [List.mem_cons, List.not_mem_nil, or_false] at hv; rcases hv with rfl <;> rfl) (by exact Nat.le_of_ble_eq_true rfl) hG rfl (fun X hl hg hX r0 σ0 hR => by subst hl; subst hg; exact jb_Teller_mostHigh hX hR p1 )
def jl_Teller_readMark : List qm_I := [(0, .aload_n 0, 1, 1), (1, .getfield 18, 3, 4), (4, .iload_n 1, 1, 5), (5, .bipush 7, 2, 7), (7, .invokevirtual 151, 3, 10), (10, .iconst 4, 1, 11), (11, .if_icmp .lt 9, 3, 14), (14, .aload_n 0, 1, 15), (15, .iload_n 2, 1, 16), (16, .iconst 3, 1, 17), (17, .invokevirtual 58, 3, 20), (20, .aload_n 0, 1, 21), (21, .invokevirtual 55, 3, 24), (24, .istore_n 3, 1, 25), (25, .aload_n 0, 1, 26), (26, .iconst 1, 1, 27), (27, .aload_n 0, 1, 28), (28, .getfield 18, 3, 31), (31, .iload_n 1, 1, 32), (32, .iconst 1, 1, 33), (33, .invokevirtual 151, 3, 36), (36, .invokevirtual 126, 3, 39), (39, .istore 4, 2, 41), (41, .aload_n 0, 1, 42), (42, .getfield 18, 3, 45), (45, .iload_n 1, 1, 46), (46, .iload 4, 2, 48), (48, .invokevirtual 154, 3, 51), (51, .ifCond .le 9, 3, 54), (54, .aload_n 0, 1, 55), (55, .iload_n 3, 1, 56), (56, .iconst 2, 1, 57), (57, .invokevirtual 58, 3, 60), (60, .aload_n 0, 1, 61), (61, .iconst 1, 1, 62), (62, .bipush 20, 2, 64), (64, .invokevirtual 126, 3, 67), (67, .istore 5, 2, 69), (69, .aload_n 0, 1, 70), (70, .getfield 42, 3, 73), (73, .iconst (-1), 1, 74), (74, .if_icmp .ne 15, 3, 77), (77, .aload_n 0, 1, 78), (78, .getfield 18, 3, 81), (81, .iload_n 1, 1, 82), (82, .iload 4, 2, 84), (84, .iload 5, 2, 86), (86, .invokevirtual 157, 3, 89), (89, .return_, 1, 90)]
theorem jd_Teller_readMark : qm_D prog_8_method_13_code jl_Teller_readMark := qm_D_of (by decide +kernel)
noncomputable def jf_Teller_readMark (this : Nat) (p1 : Int32) (p2 : Int32) : qm_M Unit :=
  mB (jf_Run_cell (qm_rf this 1) p1 7) fun x1 =>
  mB (α := Unit) (
    if x1 < 4 then
      mP ()
    else
      mB (jf_Teller_wrong this p2 3) fun _ =>
      mP ()) fun s2 =>
  mB (jf_Teller_place this) fun x3 =>
  mB (jf_Run_cell (qm_rf this 1) p1 1) fun x4 =>
  mB (jf_Teller_readNumber this 1 x4) fun x5 =>
  mB (jf_Run_noteAt (qm_rf this 1) p1 x5) fun x6 =>
  mB (α := Unit) (
    if x6 ≤ 0 then
      mP ()
    else
      mB (jf_Teller_wrong this x3 2) fun _ =>
      mP ()) fun s7 =>
  mB (jf_Teller_readNumber this 1 20) fun x8 =>
  mB (mGt this 6) fun x9 =>
  if ¬ x9 = (-1) then
    mP ()
  else
    mB (jf_Run_addMark (qm_rf this 1) p1 x5 x8) fun _ =>
    mP ()
set_option maxRecDepth 20000 in
set_option maxHeartbeats 4000000 in
theorem jb_Teller_readMark {X : qm_X} (hX : qm_ok X qr_Teller prog_8_method_13_code 6 2 47 jl_Teller_readMark) {σ0 : qm_Mem} (hR : qm_RV X σ0) (this : Nat) (p1 : Int32) (p2 : Int32) (hthis : (qm_kd this).1 = 16) : qm_B X (jf_Teller_readMark this p1 p2) 0 [some (.ref (qx_ad X this)), some (.int p1), some (.int p2), none, none, none] [] (fun _ σ1 => σ1 = σ0) := by
  unfold jf_Teller_readMark
  refine qb_aload_n hX 0 rfl rfl ?_
  refine qb_getR hX 1 rfl fl_Teller_18 hthis rfl ?_
  refine qb_iload_n hX 2 rfl rfl ?_
  refine qb_bipush hX 3 7 rfl (by decide) ?_
  refine qb_callI hX 4 rfl cv_Teller_151 (jm_Run_cell (qk_GI hX) (qm_rf this 1) p1 7 (kf_Teller_1 hthis) ) (ci := 4) (kf_Teller_1 hthis) ⟨rfl, rfl, rfl, by decide, by decide⟩ rfl (by exact Nat.le_of_ble_eq_true rfl) (fun x1 => ?_)
  refine qb_iconst hX 5 4 rfl (by decide) ?_
  refine qb_join 20 (fun s2 => [some (.ref (qx_ad X this)), some (.int p1), none, none, none, none]) (fun s2 => []) ?_ ?_
  ·
    refine qb_iclt hX 6 20 rfl (by decide) ?_ ?_
    ·
      exact qb_exit (fun σ h => qj_wk (ρ' := [some (.ref (qx_ad X this)), some (.int p1), none, none, none, none]) (qw_s (qw_s (qw_n (qw_n (qw_n (qw_n (qw_0))))))) h)
    ·
      refine qb_aload_n hX 7 rfl rfl ?_
      refine qb_iload_n hX 8 rfl rfl ?_
      refine qb_iconst hX 9 3 rfl (by decide) ?_
      refine qb_callV hX 10 rfl cv_Teller_58 (jm_Teller_wrong (qk_GI hX) this p2 3 hthis ) (ci := 6) hthis ⟨rfl, rfl, rfl, by decide, by decide⟩ rfl (by exact Nat.le_of_ble_eq_true rfl) ?_
      exact qb_exit (fun σ h => qj_wk (ρ' := [some (.ref (qx_ad X this)), some (.int p1), none, none, none, none]) (qw_s (qw_s (qw_n (qw_n (qw_n (qw_n (qw_0))))))) h)
  · intro s2
    refine qb_aload_n hX 11 rfl rfl ?_
    refine qb_callI hX 12 rfl cv_Teller_55 (jm_Teller_place (qk_GI hX) this  hthis ) (ci := 6) hthis ⟨rfl, rfl, rfl, by decide, by decide⟩ rfl (by exact Nat.le_of_ble_eq_true rfl) (fun x3 => ?_)
    refine qb_istore_n hX 13 ([some (.ref (qx_ad X this)), some (.int p1), none, some (.int x3), none, none]) rfl (by decide) rfl ?_
    refine qb_aload_n hX 14 rfl rfl ?_
    refine qb_iconst hX 15 1 rfl (by decide) ?_
    refine qb_aload_n hX 16 rfl rfl ?_
    refine qb_getR hX 17 rfl fl_Teller_18 hthis rfl ?_
    refine qb_iload_n hX 18 rfl rfl ?_
    refine qb_iconst hX 19 1 rfl (by decide) ?_
    refine qb_callI hX 20 rfl cv_Teller_151 (jm_Run_cell (qk_GI hX) (qm_rf this 1) p1 1 (kf_Teller_1 hthis) ) (ci := 4) (kf_Teller_1 hthis) ⟨rfl, rfl, rfl, by decide, by decide⟩ rfl (by exact Nat.le_of_ble_eq_true rfl) (fun x4 => ?_)
    refine qb_callI hX 21 rfl cv_Teller_126 (jm_Teller_readNumber (qk_GI hX) this 1 x4 hthis ) (ci := 6) hthis ⟨rfl, rfl, rfl, by decide, by decide⟩ rfl (by exact Nat.le_of_ble_eq_true rfl) (fun x5 => ?_)
    refine qb_istore hX 22 ([some (.ref (qx_ad X this)), some (.int p1), none, some (.int x3), some (.int x5), none]) rfl (by decide) rfl ?_
    refine qb_aload_n hX 23 rfl rfl ?_
    refine qb_getR hX 24 rfl fl_Teller_18 hthis rfl ?_
    refine qb_iload_n hX 25 rfl rfl ?_
    refine qb_iload hX 26 rfl rfl ?_
    refine qb_callI hX 27 rfl cv_Teller_154 (jm_Run_noteAt (qk_GI hX) (qm_rf this 1) p1 x5 (kf_Teller_1 hthis) ) (ci := 4) (kf_Teller_1 hthis) ⟨rfl, rfl, rfl, by decide, by decide⟩ rfl (by exact Nat.le_of_ble_eq_true rfl) (fun x6 => ?_)
    refine qb_join 60 (fun s7 => [some (.ref (qx_ad X this)), some (.int p1), none, none, some (.int x5), none]) (fun s7 => []) ?_ ?_
    ·
      refine qb_ifle hX 28 60 rfl (by decide) ?_ ?_
      ·
        exact qb_exit (fun σ h => qj_wk (ρ' := [some (.ref (qx_ad X this)), some (.int p1), none, none, some (.int x5), none]) (qw_s (qw_s (qw_n (qw_n (qw_s (qw_n (qw_0))))))) h)
      ·
        refine qb_aload_n hX 29 rfl rfl ?_
        refine qb_iload_n hX 30 rfl rfl ?_
        refine qb_iconst hX 31 2 rfl (by decide) ?_
        refine qb_callV hX 32 rfl cv_Teller_58 (jm_Teller_wrong (qk_GI hX) this x3 2 hthis ) (ci := 6) hthis ⟨rfl, rfl, rfl, by decide, by decide⟩ rfl (by exact Nat.le_of_ble_eq_true rfl) ?_
        exact qb_exit (fun σ h => qj_wk (ρ' := [some (.ref (qx_ad X this)), some (.int p1), none, none, some (.int x5), none]) (qw_s (qw_s (qw_n (qw_n (qw_s (qw_n (qw_0))))))) h)
    · intro s7
      refine qb_aload_n hX 33 rfl rfl ?_
      refine qb_iconst hX 34 1 rfl (by decide) ?_
      refine qb_bipush hX 35 20 rfl (by decide) ?_
      refine qb_callI hX 36 rfl cv_Teller_126 (jm_Teller_readNumber (qk_GI hX) this 1 20 hthis ) (ci := 6) hthis ⟨rfl, rfl, rfl, by decide, by decide⟩ rfl (by exact Nat.le_of_ble_eq_true rfl) (fun x8 => ?_)
      refine qb_istore hX 37 ([some (.ref (qx_ad X this)), some (.int p1), none, none, some (.int x5), some (.int x8)]) rfl (by decide) rfl ?_
      refine qb_aload_n hX 38 rfl rfl ?_
      refine qb_get hX 39 rfl fl_Teller_42 hthis rfl (fun x9 => ?_)
      refine qb_iconst hX 40 (-1) rfl (by decide) ?_
      refine qb_icne hX 41 89 rfl (by decide) ?_ ?_
      ·
        exact qb_vret hX 48 rfl hR (fun _ h => h)
      ·
        refine qb_aload_n hX 42 rfl rfl ?_
        refine qb_getR hX 43 rfl fl_Teller_18 hthis rfl ?_
        refine qb_iload_n hX 44 rfl rfl ?_
        refine qb_iload hX 45 rfl rfl ?_
        refine qb_iload hX 46 rfl rfl ?_
        refine qb_callV hX 47 rfl cv_Teller_157 (jm_Run_addMark (qk_GI hX) (qm_rf this 1) p1 x5 x8 (kf_Teller_1 hthis) ) (ci := 4) (kf_Teller_1 hthis) ⟨rfl, rfl, rfl, by decide, by decide⟩ rfl (by exact Nat.le_of_ble_eq_true rfl) ?_
        exact qb_vret hX 48 rfl hR (fun _ h => h)
theorem jm_Teller_readMark {l : Launch} {G : qm_G} (hG : qm_GI G) (this : Nat) (p1 : Int32) (p2 : Int32) (hthis : (qm_kd this).1 = 16) : qm_MV l G jy_Teller_readMark prog_8_method_13_code 6 2 47 [.ref (G.1 this), .int p1, .int p2] (jf_Teller_readMark this p1 p2) :=
  qm_metV (by decide +kernel) jd_Teller_readMark (fun v hv => by simp only [List.mem_cons, List.not_mem_nil, or_false] at hv; rcases hv with rfl | rfl | rfl <;> rfl) (by exact Nat.le_of_ble_eq_true rfl) hG (fun X hl hg hX σ0 hR => by subst hl; subst hg; exact jb_Teller_readMark hX hR this p1 p2 hthis)
def jl_Teller_readWords : List qm_I := [(0, .aload_n 0, 1, 1), (1, .dup, 1, 2), (2, .getfield 45, 3, 5), (5, .sipush 255, 3, 8), (8, .iand, 1, 9), (9, .putfield 45, 3, 12), (12, .iconst 0, 1, 13), (13, .istore_n 3, 1, 14), (14, .aload_n 0, 1, 15), (15, .getfield 42, 3, 18), (18, .iconst (-1), 1, 19), (19, .if_icmp .ne 167, 3, 22), (22, .aload_n 0, 1, 23), (23, .invokevirtual 48, 3, 26), (26, .iconst 4, 1, 27), (27, .if_icmp .eq 159, 3, 30), (30, .aload_n 0, 1, 31), (31, .invokevirtual 48, 3, 34), (34, .iconst 2, 1, 35), (35, .if_icmp .eq 151, 3, 38), (38, .iload_n 3, 1, 39), (39, .sipush 401, 3, 42), (42, .if_icmp .ge 144, 3, 45), (45, .aload_n 0, 1, 46), (46, .invokevirtual 55, 3, 49), (49, .istore 4, 2, 51), (51, .aload_n 0, 1, 52), (52, .invokevirtual 108, 3, 55), (55, .istore 5, 2, 57), (57, .iload 5, 2, 59), (59, .bipush 13, 2, 61), (61, .if_icmp .ne 24, 3, 64), (64, .aload_n 0, 1, 65), (65, .iload 5, 2, 67), (67, .iload 4, 2, 69), (69, .invokevirtual 117, 3, 72), (72, .aload_n 0, 1, 73), (73, .getfield 18, 3, 76), (76, .iload_n 1, 1, 77), (77, .iconst 4, 1, 78), (78, .iconst 1, 1, 79), (79, .invokevirtual 138, 3, 82), (82, .goto 98, 3, 85), (85, .iload 5, 2, 87), (87, .bipush 14, 2, 89), (89, .if_icmp .ne 28, 3, 92), (92, .iload_n 2, 1, 93), (93, .ifCond .ne 24, 3, 96), (96, .aload_n 0, 1, 97), (97, .iload 5, 2, 99), (99, .iload 4, 2, 101), (101, .invokevirtual 117, 3, 104), (104, .aload_n 0, 1, 105), (105, .getfield 18, 3, 108), (108, .iload_n 1, 1, 109), (109, .iconst 5, 1, 110), (110, .iconst 1, 1, 111), (111, .invokevirtual 138, 3, 114), (114, .goto 66, 3, 117), (117, .iload 5, 2, 119), (119, .bipush 15, 2, 121), (121, .if_icmp .ne 31, 3, 124), (124, .aload_n 0, 1, 125), (125, .iload 5, 2, 127), (127, .iload 4, 2, 129), (129, .invokevirtual 117, 3, 132), (132, .aload_n 0, 1, 133), (133, .getfield 18, 3, 136), (136, .iload_n 1, 1, 137), (137, .bipush 6, 2, 139), (139, .aload_n 0, 1, 140), (140, .iconst 0, 1, 141), (141, .bipush 30, 2, 143), (143, .invokevirtual 126, 3, 146), (146, .invokevirtual 138, 3, 149), (149, .goto 31, 3, 152), (152, .iload 5, 2, 154), (154, .bipush 16, 2, 156), (156, .if_icmp .ne 17, 3, 159), (159, .iload_n 2, 1, 160), (160, .ifCond .ne 13, 3, 163), (163, .aload_n 0, 1, 164), (164, .iload_n 1, 1, 165), (165, .iload 4, 2, 167), (167, .invokevirtual 148, 3, 170), (170, .goto 10, 3, 173), (173, .aload_n 0, 1, 174), (174, .iload 4, 2, 176), (176, .iconst 1, 1, 177), (177, .invokevirtual 58, 3, 180), (180, .iinc 3 1, 3, 183), (183, .goto (-169), 3, 186), (186, .return_, 1, 187)]
theorem jd_Teller_readWords : qm_D prog_8_method_12_code jl_Teller_readWords := qm_D_of (by decide +kernel)
noncomputable def jf_Teller_readWords (this : Nat) (p1 : Int32) (p2 : Int32) : qm_M Unit :=
  mB (mGt this 7) fun x1 =>
  mB (mPt this 7 (x1 &&& 255)) fun _ =>
  mB (α := Unit) (
    mW (S := Int32) (α := Unit) (fun s3 =>
      mB (mGt this 6) fun x4 =>
      if ¬ x4 = (-1) then
        mP (Sum.inr ())
      else
        mB (jf_Teller_sign this) fun x5 =>
        if x5 = 4 then
          mP (Sum.inr ())
        else
          mB (jf_Teller_sign this) fun x6 =>
          if x6 = 2 then
            mP (Sum.inr ())
          else
            if 401 ≤ s3 then
              mP (Sum.inr ())
            else
              mB (jf_Teller_place this) fun x7 =>
              mB (jf_Teller_readWord this) fun x8 =>
              mB (α := Unit) (
                if ¬ x8 = 13 then
                  mB (α := (Unit ⊕ Unit)) (
                    if ¬ x8 = 14 then
                      mP (Sum.inl ())
                    else
                      if ¬ p2 = 0 then
                        mP (Sum.inl ())
                      else
                        mB (jf_Teller_tellOnce this x8 x7) fun _ =>
                        mB (jf_Run_putCell (qm_rf this 1) p1 5 1) fun _ =>
                        mP (Sum.inr ())) (Sum.elim (fun s10 =>
                    if ¬ x8 = 15 then
                      mB (α := (Unit ⊕ Unit)) (
                        if ¬ x8 = 16 then
                          mP (Sum.inl ())
                        else
                          if ¬ p2 = 0 then
                            mP (Sum.inl ())
                          else
                            mB (jf_Teller_readMark this p1 x7) fun _ =>
                            mP (Sum.inr ())) (Sum.elim (fun s11 =>
                        mB (jf_Teller_wrong this x7 1) fun _ =>
                        mP ()) mP)
                    else
                      mB (jf_Teller_tellOnce this x8 x7) fun _ =>
                      mB (jf_Teller_readNumber this 0 30) fun x12 =>
                      mB (jf_Run_putCell (qm_rf this 1) p1 6 x12) fun _ =>
                      mP ()) mP)
                else
                  mB (jf_Teller_tellOnce this x8 x7) fun _ =>
                  mB (jf_Run_putCell (qm_rf this 1) p1 4 1) fun _ =>
                  mP ()) fun s9 =>
              mB (mP (s3 + 1)) fun x13 =>
              mP (Sum.inl x13)) 0) fun s2 =>
  mP ()
set_option maxRecDepth 20000 in
set_option maxHeartbeats 4000000 in
theorem jb_Teller_readWords {X : qm_X} (hX : qm_ok X qr_Teller prog_8_method_12_code 6 3 72 jl_Teller_readWords) {σ0 : qm_Mem} (hR : qm_RV X σ0) (this : Nat) (p1 : Int32) (p2 : Int32) (hthis : (qm_kd this).1 = 16) : qm_B X (jf_Teller_readWords this p1 p2) 0 [some (.ref (qx_ad X this)), some (.int p1), some (.int p2), none, none, none] [] (fun _ σ1 => σ1 = σ0) := by
  unfold jf_Teller_readWords
  refine qb_aload_n hX 0 rfl rfl ?_
  refine qb_dup hX 1 rfl rfl ?_
  refine qb_get hX 2 rfl fl_Teller_45 hthis rfl (fun x1 => ?_)
  refine qb_sipush hX 3 255 rfl (by decide) ?_
  refine qb_iand hX 4 rfl ?_
  refine qb_put hX 5 rfl fp_Teller_45 hthis ?_
  refine qb_iconst hX 6 0 rfl (by decide) ?_
  refine qb_istore_n hX 7 ([some (.ref (qx_ad X this)), some (.int p1), some (.int p2), some (.int 0), none, none]) rfl (by decide) rfl ?_
  refine qb_join 186 (fun s2 => [none, none, none, none, none, none]) (fun s2 => []) ?_ ?_
  ·
    refine qb_loopw (0) (fun s3 => [some (.ref (qx_ad X this)), some (.int p1), some (.int p2), some (.int s3), none, none]) (qw_s (qw_s (qw_s (qw_s (qw_n (qw_n (qw_0))))))) (fun s3 => ?_)
    refine qb_aload_n hX 8 rfl rfl ?_
    refine qb_get hX 9 rfl fl_Teller_42 hthis rfl (fun x4 => ?_)
    refine qb_iconst hX 10 (-1) rfl (by decide) ?_
    refine qb_icne hX 11 186 rfl (by decide) ?_ ?_
    ·
      exact qb_exit (fun σ h => qj_wk (ρ' := [none, none, none, none, none, none]) (qw_n (qw_n (qw_n (qw_n (qw_n (qw_n (qw_0))))))) h)
    ·
      refine qb_aload_n hX 12 rfl rfl ?_
      refine qb_callI hX 13 rfl cv_Teller_48 (jm_Teller_sign (qk_GI hX) this  hthis ) (ci := 6) hthis ⟨rfl, rfl, rfl, by decide, by decide⟩ rfl (by exact Nat.le_of_ble_eq_true rfl) (fun x5 => ?_)
      refine qb_iconst hX 14 4 rfl (by decide) ?_
      refine qb_iceq hX 15 186 rfl (by decide) ?_ ?_
      ·
        exact qb_exit (fun σ h => qj_wk (ρ' := [none, none, none, none, none, none]) (qw_n (qw_n (qw_n (qw_n (qw_n (qw_n (qw_0))))))) h)
      ·
        refine qb_aload_n hX 16 rfl rfl ?_
        refine qb_callI hX 17 rfl cv_Teller_48 (jm_Teller_sign (qk_GI hX) this  hthis ) (ci := 6) hthis ⟨rfl, rfl, rfl, by decide, by decide⟩ rfl (by exact Nat.le_of_ble_eq_true rfl) (fun x6 => ?_)
        refine qb_iconst hX 18 2 rfl (by decide) ?_
        refine qb_iceq hX 19 186 rfl (by decide) ?_ ?_
        ·
          exact qb_exit (fun σ h => qj_wk (ρ' := [none, none, none, none, none, none]) (qw_n (qw_n (qw_n (qw_n (qw_n (qw_n (qw_0))))))) h)
        ·
          refine qb_iload_n hX 20 rfl rfl ?_
          refine qb_sipush hX 21 401 rfl (by decide) ?_
          refine qb_icge hX 22 186 rfl (by decide) ?_ ?_
          ·
            exact qb_exit (fun σ h => qj_wk (ρ' := [none, none, none, none, none, none]) (qw_n (qw_n (qw_n (qw_n (qw_n (qw_n (qw_0))))))) h)
          ·
            refine qb_aload_n hX 23 rfl rfl ?_
            refine qb_callI hX 24 rfl cv_Teller_55 (jm_Teller_place (qk_GI hX) this  hthis ) (ci := 6) hthis ⟨rfl, rfl, rfl, by decide, by decide⟩ rfl (by exact Nat.le_of_ble_eq_true rfl) (fun x7 => ?_)
            refine qb_istore hX 25 ([some (.ref (qx_ad X this)), some (.int p1), some (.int p2), some (.int s3), some (.int x7), none]) rfl (by decide) rfl ?_
            refine qb_aload_n hX 26 rfl rfl ?_
            refine qb_callI hX 27 rfl cv_Teller_108 (jm_Teller_readWord (qk_GI hX) this  hthis ) (ci := 6) hthis ⟨rfl, rfl, rfl, by decide, by decide⟩ rfl (by exact Nat.le_of_ble_eq_true rfl) (fun x8 => ?_)
            refine qb_istore hX 28 ([some (.ref (qx_ad X this)), some (.int p1), some (.int p2), some (.int s3), some (.int x7), some (.int x8)]) rfl (by decide) rfl ?_
            refine qb_iload hX 29 rfl rfl ?_
            refine qb_bipush hX 30 13 rfl (by decide) ?_
            refine qb_join 180 (fun s9 => [some (.ref (qx_ad X this)), some (.int p1), some (.int p2), some (.int s3), none, none]) (fun s9 => []) ?_ ?_
            ·
              refine qb_icne hX 31 85 rfl (by decide) ?_ ?_
              ·
                refine qb_iload hX 43 rfl rfl ?_
                refine qb_bipush hX 44 14 rfl (by decide) ?_
                refine qb_join2 117 (fun s10 => [some (.ref (qx_ad X this)), some (.int p1), some (.int p2), some (.int s3), some (.int x7), some (.int x8)]) (fun s10 => []) ?_ ?_
                ·
                  refine qb_icne hX 45 117 rfl (by decide) ?_ ?_
                  ·
                    exact qb_exit (fun σ h => qj_wk (ρ' := [some (.ref (qx_ad X this)), some (.int p1), some (.int p2), some (.int s3), some (.int x7), some (.int x8)]) (qw_s (qw_s (qw_s (qw_s (qw_s (qw_s (qw_0))))))) h)
                  ·
                    refine qb_iload_n hX 46 rfl rfl ?_
                    refine qb_ifne hX 47 117 rfl (by decide) ?_ ?_
                    ·
                      exact qb_exit (fun σ h => qj_wk (ρ' := [some (.ref (qx_ad X this)), some (.int p1), some (.int p2), some (.int s3), some (.int x7), some (.int x8)]) (qw_s (qw_s (qw_s (qw_s (qw_s (qw_s (qw_0))))))) h)
                    ·
                      refine qb_aload_n hX 48 rfl rfl ?_
                      refine qb_iload hX 49 rfl rfl ?_
                      refine qb_iload hX 50 rfl rfl ?_
                      refine qb_callV hX 51 rfl cv_Teller_117 (jm_Teller_tellOnce (qk_GI hX) this x8 x7 hthis ) (ci := 6) hthis ⟨rfl, rfl, rfl, by decide, by decide⟩ rfl (by exact Nat.le_of_ble_eq_true rfl) ?_
                      refine qb_aload_n hX 52 rfl rfl ?_
                      refine qb_getR hX 53 rfl fl_Teller_18 hthis rfl ?_
                      refine qb_iload_n hX 54 rfl rfl ?_
                      refine qb_iconst hX 55 5 rfl (by decide) ?_
                      refine qb_iconst hX 56 1 rfl (by decide) ?_
                      refine qb_callV hX 57 rfl cv_Teller_138 (jm_Run_putCell (qk_GI hX) (qm_rf this 1) p1 5 1 (kf_Teller_1 hthis) ) (ci := 4) (kf_Teller_1 hthis) ⟨rfl, rfl, rfl, by decide, by decide⟩ rfl (by exact Nat.le_of_ble_eq_true rfl) ?_
                      exact qb_exit (fun σ h => qj_goto hX 58 rfl (by decide) (qj_wk (ρ' := [some (.ref (qx_ad X this)), some (.int p1), some (.int p2), some (.int s3), none, none]) (qw_s (qw_s (qw_s (qw_s (qw_n (qw_n (qw_0))))))) h))
                · intro s10
                  refine qb_iload hX 59 rfl rfl ?_
                  refine qb_bipush hX 60 15 rfl (by decide) ?_
                  refine qb_icne hX 61 152 rfl (by decide) ?_ ?_
                  ·
                    refine qb_iload hX 76 rfl rfl ?_
                    refine qb_bipush hX 77 16 rfl (by decide) ?_
                    refine qb_join2 173 (fun s11 => [some (.ref (qx_ad X this)), some (.int p1), some (.int p2), some (.int s3), some (.int x7), none]) (fun s11 => []) ?_ ?_
                    ·
                      refine qb_icne hX 78 173 rfl (by decide) ?_ ?_
                      ·
                        exact qb_exit (fun σ h => qj_wk (ρ' := [some (.ref (qx_ad X this)), some (.int p1), some (.int p2), some (.int s3), some (.int x7), none]) (qw_s (qw_s (qw_s (qw_s (qw_s (qw_n (qw_0))))))) h)
                      ·
                        refine qb_iload_n hX 79 rfl rfl ?_
                        refine qb_ifne hX 80 173 rfl (by decide) ?_ ?_
                        ·
                          exact qb_exit (fun σ h => qj_wk (ρ' := [some (.ref (qx_ad X this)), some (.int p1), some (.int p2), some (.int s3), some (.int x7), none]) (qw_s (qw_s (qw_s (qw_s (qw_s (qw_n (qw_0))))))) h)
                        ·
                          refine qb_aload_n hX 81 rfl rfl ?_
                          refine qb_iload_n hX 82 rfl rfl ?_
                          refine qb_iload hX 83 rfl rfl ?_
                          refine qb_callV hX 84 rfl cv_Teller_148 (jm_Teller_readMark (qk_GI hX) this p1 x7 hthis ) (ci := 6) hthis ⟨rfl, rfl, rfl, by decide, by decide⟩ rfl (by exact Nat.le_of_ble_eq_true rfl) ?_
                          exact qb_exit (fun σ h => qj_goto hX 85 rfl (by decide) (qj_wk (ρ' := [some (.ref (qx_ad X this)), some (.int p1), some (.int p2), some (.int s3), none, none]) (qw_s (qw_s (qw_s (qw_s (qw_n (qw_n (qw_0))))))) h))
                    · intro s11
                      refine qb_aload_n hX 86 rfl rfl ?_
                      refine qb_iload hX 87 rfl rfl ?_
                      refine qb_iconst hX 88 1 rfl (by decide) ?_
                      refine qb_callV hX 89 rfl cv_Teller_58 (jm_Teller_wrong (qk_GI hX) this x7 1 hthis ) (ci := 6) hthis ⟨rfl, rfl, rfl, by decide, by decide⟩ rfl (by exact Nat.le_of_ble_eq_true rfl) ?_
                      exact qb_exit (fun σ h => qj_wk (ρ' := [some (.ref (qx_ad X this)), some (.int p1), some (.int p2), some (.int s3), none, none]) (qw_s (qw_s (qw_s (qw_s (qw_n (qw_n (qw_0))))))) h)
                  ·
                    refine qb_aload_n hX 62 rfl rfl ?_
                    refine qb_iload hX 63 rfl rfl ?_
                    refine qb_iload hX 64 rfl rfl ?_
                    refine qb_callV hX 65 rfl cv_Teller_117 (jm_Teller_tellOnce (qk_GI hX) this x8 x7 hthis ) (ci := 6) hthis ⟨rfl, rfl, rfl, by decide, by decide⟩ rfl (by exact Nat.le_of_ble_eq_true rfl) ?_
                    refine qb_aload_n hX 66 rfl rfl ?_
                    refine qb_getR hX 67 rfl fl_Teller_18 hthis rfl ?_
                    refine qb_iload_n hX 68 rfl rfl ?_
                    refine qb_bipush hX 69 6 rfl (by decide) ?_
                    refine qb_aload_n hX 70 rfl rfl ?_
                    refine qb_iconst hX 71 0 rfl (by decide) ?_
                    refine qb_bipush hX 72 30 rfl (by decide) ?_
                    refine qb_callI hX 73 rfl cv_Teller_126 (jm_Teller_readNumber (qk_GI hX) this 0 30 hthis ) (ci := 6) hthis ⟨rfl, rfl, rfl, by decide, by decide⟩ rfl (by exact Nat.le_of_ble_eq_true rfl) (fun x12 => ?_)
                    refine qb_callV hX 74 rfl cv_Teller_138 (jm_Run_putCell (qk_GI hX) (qm_rf this 1) p1 6 x12 (kf_Teller_1 hthis) ) (ci := 4) (kf_Teller_1 hthis) ⟨rfl, rfl, rfl, by decide, by decide⟩ rfl (by exact Nat.le_of_ble_eq_true rfl) ?_
                    exact qb_exit (fun σ h => qj_goto hX 75 rfl (by decide) (qj_wk (ρ' := [some (.ref (qx_ad X this)), some (.int p1), some (.int p2), some (.int s3), none, none]) (qw_s (qw_s (qw_s (qw_s (qw_n (qw_n (qw_0))))))) h))
              ·
                refine qb_aload_n hX 32 rfl rfl ?_
                refine qb_iload hX 33 rfl rfl ?_
                refine qb_iload hX 34 rfl rfl ?_
                refine qb_callV hX 35 rfl cv_Teller_117 (jm_Teller_tellOnce (qk_GI hX) this x8 x7 hthis ) (ci := 6) hthis ⟨rfl, rfl, rfl, by decide, by decide⟩ rfl (by exact Nat.le_of_ble_eq_true rfl) ?_
                refine qb_aload_n hX 36 rfl rfl ?_
                refine qb_getR hX 37 rfl fl_Teller_18 hthis rfl ?_
                refine qb_iload_n hX 38 rfl rfl ?_
                refine qb_iconst hX 39 4 rfl (by decide) ?_
                refine qb_iconst hX 40 1 rfl (by decide) ?_
                refine qb_callV hX 41 rfl cv_Teller_138 (jm_Run_putCell (qk_GI hX) (qm_rf this 1) p1 4 1 (kf_Teller_1 hthis) ) (ci := 4) (kf_Teller_1 hthis) ⟨rfl, rfl, rfl, by decide, by decide⟩ rfl (by exact Nat.le_of_ble_eq_true rfl) ?_
                exact qb_exit (fun σ h => qj_goto hX 42 rfl (by decide) (qj_wk (ρ' := [some (.ref (qx_ad X this)), some (.int p1), some (.int p2), some (.int s3), none, none]) (qw_s (qw_s (qw_s (qw_s (qw_n (qw_n (qw_0))))))) h))
            · intro s9
              refine qb_iinc hX 90 1 (fun x13 => [some (.ref (qx_ad X this)), some (.int p1), some (.int p2), some (.int x13), none, none]) rfl (by decide) (by decide) rfl (fun _ => rfl) (fun x13 => ?_)
              exact qb_exit (fun σ h => qj_goto hX 91 rfl (by decide) (qj_wk (ρ' := [some (.ref (qx_ad X this)), some (.int p1), some (.int p2), some (.int x13), none, none]) (qw_s (qw_s (qw_s (qw_s (qw_n (qw_n (qw_0))))))) h))
  · intro s2
    exact qb_vret hX 92 rfl hR (fun _ h => h)
theorem jm_Teller_readWords {l : Launch} {G : qm_G} (hG : qm_GI G) (this : Nat) (p1 : Int32) (p2 : Int32) (hthis : (qm_kd this).1 = 16) : qm_MV l G jy_Teller_readWords prog_8_method_12_code 6 3 72 [.ref (G.1 this), .int p1, .int p2] (jf_Teller_readWords this p1 p2) :=
  qm_metV (by decide +kernel) jd_Teller_readWords (fun v hv => by simp only [List.mem_cons, List.not_mem_nil, or_false] at hv; rcases hv with rfl | rfl | rfl <;> rfl) (by exact Nat.le_of_ble_eq_true rfl) hG (fun X hl hg hX σ0 hR => by subst hl; subst hg; exact jb_Teller_readWords hX hR this p1 p2 hthis)
def jl_Teller_readBlock : List qm_I := [(0, .iload_n 1, 1, 1), (1, .iconst 1, 1, 2), (2, .if_icmp .eq 8, 3, 5), (5, .iload_n 1, 1, 6), (6, .iconst 2, 1, 7), (7, .if_icmp .ne 7, 3, 10), (10, .iconst 1, 1, 11), (11, .goto 4, 3, 14), (14, .iconst 0, 1, 15), (15, .istore_n 3, 1, 16), (16, .aload_n 0, 1, 17), (17, .getfield 18, 3, 20), (20, .invokevirtual 62, 3, 23), (23, .istore 4, 2, 25), (25, .aload_n 0, 1, 26), (26, .getfield 18, 3, 29), (29, .getfield 132, 3, 32), (32, .bipush 16, 2, 34), (34, .if_icmp .ge 14, 3, 37), (37, .iload_n 3, 1, 38), (38, .ifCond .eq 17, 3, 41), (41, .iload 4, 2, 43), (43, .bipush 90, 2, 45), (45, .if_icmp .lt 10, 3, 48), (48, .aload_n 0, 1, 49), (49, .iload_n 2, 1, 50), (50, .iconst 3, 1, 51), (51, .invokevirtual 58, 3, 54), (54, .return_, 1, 55), (55, .aload_n 0, 1, 56), (56, .getfield 18, 3, 59), (59, .iload_n 1, 1, 60), (60, .invokevirtual 135, 3, 63), (63, .istore 5, 2, 65), (65, .iload_n 1, 1, 66), (66, .iconst 3, 1, 67), (67, .if_icmp .ne 20, 3, 70), (70, .aload_n 0, 1, 71), (71, .getfield 18, 3, 74), (74, .iload 5, 2, 76), (76, .iconst 3, 1, 77), (77, .aload_n 0, 1, 78), (78, .iconst 0, 1, 79), (79, .bipush 9, 2, 81), (81, .invokevirtual 126, 3, 84), (84, .invokevirtual 138, 3, 87), (87, .iload_n 3, 1, 88), (88, .ifCond .eq 7, 3, 91), (91, .iconst 1, 1, 92), (92, .goto 4, 3, 95), (95, .iconst 0, 1, 96), (96, .istore 6, 2, 98), (98, .iload_n 1, 1, 99), (99, .ifCond .eq 8, 3, 102), (102, .iload_n 1, 1, 103), (103, .iconst 3, 1, 104), (104, .if_icmp .ne 35, 3, 107), (107, .aload_n 0, 1, 108), (108, .invokevirtual 55, 3, 111), (111, .istore 7, 2, 113), (113, .aload_n 0, 1, 114), (114, .iconst 1, 1, 115), (115, .bipush 30, 2, 117), (117, .invokevirtual 126, 3, 120), (120, .istore 6, 2, 122), (122, .iload 4, 2, 124), (124, .iload 6, 2, 126), (126, .iadd, 1, 127), (127, .bipush 90, 2, 129), (129, .if_icmp .le 10, 3, 132), (132, .aload_n 0, 1, 133), (133, .iload 7, 2, 135), (135, .iconst 3, 1, 136), (136, .invokevirtual 58, 3, 139), (139, .aload_n 0, 1, 140), (140, .getfield 18, 3, 143), (143, .iload 5, 2, 145), (145, .iconst 1, 1, 146), (146, .iload 6, 2, 148), (148, .invokevirtual 138, 3, 151), (151, .aload_n 0, 1, 152), (152, .getfield 18, 3, 155), (155, .iload 5, 2, 157), (157, .iconst 2, 1, 158), (158, .aload_n 0, 1, 159), (159, .iconst 1, 1, 160), (160, .iload_n 1, 1, 161), (161, .invokestatic 142, 3, 164), (164, .invokevirtual 126, 3, 167), (167, .invokevirtual 138, 3, 170), (170, .iload_n 1, 1, 171), (171, .iconst 4, 1, 172), (172, .if_icmp .eq 10, 3, 175), (175, .aload_n 0, 1, 176), (176, .iload 5, 2, 178), (178, .iload_n 1, 1, 179), (179, .invokevirtual 145, 3, 182), (182, .return_, 1, 183)]
theorem jd_Teller_readBlock : qm_D prog_8_method_10_code jl_Teller_readBlock := qm_D_of (by decide +kernel)
noncomputable def jf_Teller_readBlock (this : Nat) (p1 : Int32) (p2 : Int32) : qm_M Unit :=
  mB (α := Int32) (
    mB (α := (Unit ⊕ Int32)) (
      if p1 = 1 then
        mP (Sum.inl ())
      else
        if ¬ p1 = 2 then
          mP (Sum.inr 0)
        else
          mP (Sum.inl ())) (Sum.elim (fun s2 =>
      mP 1) mP)) fun s1 =>
  mB (jf_Run_allPieces (qm_rf this 1)) fun x3 =>
  mB (mGt (qm_rf this 1) 0) fun x4 =>
  mB (α := (Unit ⊕ Unit)) (
    if 16 ≤ x4 then
      mP (Sum.inl ())
    else
      mB (α := (Unit ⊕ (Unit ⊕ Unit))) (
        if s1 = 0 then
          mP (Sum.inl ())
        else
          if x3 < 90 then
            mP (Sum.inl ())
          else
            mP (Sum.inr (Sum.inl ()))) (Sum.elim (fun s6 =>
        mB (jf_Run_add (qm_rf this 1) p1) fun x7 =>
        mB (α := Unit) (
          if ¬ p1 = 3 then
            mP ()
          else
            mB (jf_Teller_readNumber this 0 9) fun x9 =>
            mB (jf_Run_putCell (qm_rf this 1) x7 3 x9) fun _ =>
            mP ()) fun s8 =>
        mB (α := Int32) (
          if s1 = 0 then
            mP 0
          else
            mP 1) fun s10 =>
        mB (α := Int32) (
          mB (α := (Unit ⊕ Int32)) (
            if p1 = 0 then
              mP (Sum.inl ())
            else
              if ¬ p1 = 3 then
                mP (Sum.inr s10)
              else
                mP (Sum.inl ())) (Sum.elim (fun s12 =>
            mB (jf_Teller_place this) fun x13 =>
            mB (jf_Teller_readNumber this 1 30) fun x14 =>
            if (x3 + x14) ≤ 90 then
              mP x14
            else
              mB (jf_Teller_wrong this x13 3) fun _ =>
              mP x14) mP)) fun s11 =>
        mB (jf_Run_putCell (qm_rf this 1) x7 1 s11) fun _ =>
        mB (jf_Teller_mostHigh p1) fun x15 =>
        mB (jf_Teller_readNumber this 1 x15) fun x16 =>
        mB (jf_Run_putCell (qm_rf this 1) x7 2 x16) fun _ =>
        if p1 = 4 then
          mP (Sum.inr ())
        else
          mB (jf_Teller_readWords this x7 p1) fun _ =>
          mP (Sum.inr ())) mP)) (Sum.elim (fun s5 =>
    mB (jf_Teller_wrong this p2 3) fun _ =>
    mP ()) mP)
set_option maxRecDepth 20000 in
set_option maxHeartbeats 4000000 in
theorem jb_Teller_readBlock {X : qm_X} (hX : qm_ok X qr_Teller prog_8_method_10_code 8 4 97 jl_Teller_readBlock) {σ0 : qm_Mem} (hR : qm_RV X σ0) (this : Nat) (p1 : Int32) (p2 : Int32) (hthis : (qm_kd this).1 = 16) : qm_B X (jf_Teller_readBlock this p1 p2) 0 [some (.ref (qx_ad X this)), some (.int p1), some (.int p2), none, none, none, none, none] [] (fun _ σ1 => σ1 = σ0) := by
  unfold jf_Teller_readBlock
  refine qb_iload_n hX 0 rfl rfl ?_
  refine qb_iconst hX 1 1 rfl (by decide) ?_
  refine qb_join 15 (fun s1 => [some (.ref (qx_ad X this)), some (.int p1), some (.int p2), none, none, none, none, none]) (fun s1 => [.int s1]) ?_ ?_
  ·
    refine qb_join2 10 (fun s2 => [some (.ref (qx_ad X this)), some (.int p1), some (.int p2), none, none, none, none, none]) (fun s2 => []) ?_ ?_
    ·
      refine qb_iceq hX 2 10 rfl (by decide) ?_ ?_
      ·
        exact qb_exit (fun σ h => qj_wk (ρ' := [some (.ref (qx_ad X this)), some (.int p1), some (.int p2), none, none, none, none, none]) (qw_s (qw_s (qw_s (qw_n (qw_n (qw_n (qw_n (qw_n (qw_0))))))))) h)
      ·
        refine qb_iload_n hX 3 rfl rfl ?_
        refine qb_iconst hX 4 2 rfl (by decide) ?_
        refine qb_icne hX 5 14 rfl (by decide) ?_ ?_
        ·
          refine qb_iconst hX 8 0 rfl (by decide) ?_
          exact qb_exit (fun σ h => qj_wk (ρ' := [some (.ref (qx_ad X this)), some (.int p1), some (.int p2), none, none, none, none, none]) (qw_s (qw_s (qw_s (qw_n (qw_n (qw_n (qw_n (qw_n (qw_0))))))))) h)
        ·
          exact qb_exit (fun σ h => qj_wk (ρ' := [some (.ref (qx_ad X this)), some (.int p1), some (.int p2), none, none, none, none, none]) (qw_s (qw_s (qw_s (qw_n (qw_n (qw_n (qw_n (qw_n (qw_0))))))))) h)
    · intro s2
      refine qb_iconst hX 6 1 rfl (by decide) ?_
      exact qb_exit (fun σ h => qj_goto hX 7 rfl (by decide) (qj_wk (ρ' := [some (.ref (qx_ad X this)), some (.int p1), some (.int p2), none, none, none, none, none]) (qw_s (qw_s (qw_s (qw_n (qw_n (qw_n (qw_n (qw_n (qw_0))))))))) h))
  · intro s1
    refine qb_istore_n hX 9 ([some (.ref (qx_ad X this)), some (.int p1), some (.int p2), some (.int s1), none, none, none, none]) rfl (by decide) rfl ?_
    refine qb_aload_n hX 10 rfl rfl ?_
    refine qb_getR hX 11 rfl fl_Teller_18 hthis rfl ?_
    refine qb_callI hX 12 rfl cv_Teller_62 (jm_Run_allPieces (qk_GI hX) (qm_rf this 1)  (kf_Teller_1 hthis) ) (ci := 4) (kf_Teller_1 hthis) ⟨rfl, rfl, rfl, by decide, by decide⟩ rfl (by exact Nat.le_of_ble_eq_true rfl) (fun x3 => ?_)
    refine qb_istore hX 13 ([some (.ref (qx_ad X this)), some (.int p1), some (.int p2), some (.int s1), some (.int x3), none, none, none]) rfl (by decide) rfl ?_
    refine qb_aload_n hX 14 rfl rfl ?_
    refine qb_getR hX 15 rfl fl_Teller_18 hthis rfl ?_
    refine qb_get hX 16 rfl fl_Teller_132 (kf_Teller_1 hthis) rfl (fun x4 => ?_)
    refine qb_bipush hX 17 16 rfl (by decide) ?_
    refine qb_join2 48 (fun s5 => [some (.ref (qx_ad X this)), none, some (.int p2), none, none, none, none, none]) (fun s5 => []) ?_ ?_
    ·
      refine qb_icge hX 18 48 rfl (by decide) ?_ ?_
      ·
        exact qb_exit (fun σ h => qj_wk (ρ' := [some (.ref (qx_ad X this)), none, some (.int p2), none, none, none, none, none]) (qw_s (qw_n (qw_s (qw_n (qw_n (qw_n (qw_n (qw_n (qw_0))))))))) h)
      ·
        refine qb_iload_n hX 19 rfl rfl ?_
        refine qb_join2 55 (fun s6 => [some (.ref (qx_ad X this)), some (.int p1), none, some (.int s1), some (.int x3), none, none, none]) (fun s6 => []) ?_ ?_
        ·
          refine qb_ifeq hX 20 55 rfl (by decide) ?_ ?_
          ·
            exact qb_exit (fun σ h => qj_wk (ρ' := [some (.ref (qx_ad X this)), some (.int p1), none, some (.int s1), some (.int x3), none, none, none]) (qw_s (qw_s (qw_n (qw_s (qw_s (qw_n (qw_n (qw_n (qw_0))))))))) h)
          ·
            refine qb_iload hX 21 rfl rfl ?_
            refine qb_bipush hX 22 90 rfl (by decide) ?_
            refine qb_iclt hX 23 55 rfl (by decide) ?_ ?_
            ·
              exact qb_exit (fun σ h => qj_wk (ρ' := [some (.ref (qx_ad X this)), some (.int p1), none, some (.int s1), some (.int x3), none, none, none]) (qw_s (qw_s (qw_n (qw_s (qw_s (qw_n (qw_n (qw_n (qw_0))))))))) h)
            ·
              exact qb_exit (fun σ h => qj_wk (ρ' := [some (.ref (qx_ad X this)), none, some (.int p2), none, none, none, none, none]) (qw_s (qw_n (qw_s (qw_n (qw_n (qw_n (qw_n (qw_n (qw_0))))))))) h)
        · intro s6
          refine qb_aload_n hX 29 rfl rfl ?_
          refine qb_getR hX 30 rfl fl_Teller_18 hthis rfl ?_
          refine qb_iload_n hX 31 rfl rfl ?_
          refine qb_callI hX 32 rfl cv_Teller_135 (jm_Run_add (qk_GI hX) (qm_rf this 1) p1 (kf_Teller_1 hthis) ) (ci := 4) (kf_Teller_1 hthis) ⟨rfl, rfl, rfl, by decide, by decide⟩ rfl (by exact Nat.le_of_ble_eq_true rfl) (fun x7 => ?_)
          refine qb_istore hX 33 ([some (.ref (qx_ad X this)), some (.int p1), none, some (.int s1), some (.int x3), some (.int x7), none, none]) rfl (by decide) rfl ?_
          refine qb_iload_n hX 34 rfl rfl ?_
          refine qb_iconst hX 35 3 rfl (by decide) ?_
          refine qb_join 87 (fun s8 => [some (.ref (qx_ad X this)), some (.int p1), none, some (.int s1), some (.int x3), some (.int x7), none, none]) (fun s8 => []) ?_ ?_
          ·
            refine qb_icne hX 36 87 rfl (by decide) ?_ ?_
            ·
              exact qb_exit (fun σ h => qj_wk (ρ' := [some (.ref (qx_ad X this)), some (.int p1), none, some (.int s1), some (.int x3), some (.int x7), none, none]) (qw_s (qw_s (qw_n (qw_s (qw_s (qw_s (qw_n (qw_n (qw_0))))))))) h)
            ·
              refine qb_aload_n hX 37 rfl rfl ?_
              refine qb_getR hX 38 rfl fl_Teller_18 hthis rfl ?_
              refine qb_iload hX 39 rfl rfl ?_
              refine qb_iconst hX 40 3 rfl (by decide) ?_
              refine qb_aload_n hX 41 rfl rfl ?_
              refine qb_iconst hX 42 0 rfl (by decide) ?_
              refine qb_bipush hX 43 9 rfl (by decide) ?_
              refine qb_callI hX 44 rfl cv_Teller_126 (jm_Teller_readNumber (qk_GI hX) this 0 9 hthis ) (ci := 6) hthis ⟨rfl, rfl, rfl, by decide, by decide⟩ rfl (by exact Nat.le_of_ble_eq_true rfl) (fun x9 => ?_)
              refine qb_callV hX 45 rfl cv_Teller_138 (jm_Run_putCell (qk_GI hX) (qm_rf this 1) x7 3 x9 (kf_Teller_1 hthis) ) (ci := 4) (kf_Teller_1 hthis) ⟨rfl, rfl, rfl, by decide, by decide⟩ rfl (by exact Nat.le_of_ble_eq_true rfl) ?_
              exact qb_exit (fun σ h => qj_wk (ρ' := [some (.ref (qx_ad X this)), some (.int p1), none, some (.int s1), some (.int x3), some (.int x7), none, none]) (qw_s (qw_s (qw_n (qw_s (qw_s (qw_s (qw_n (qw_n (qw_0))))))))) h)
          · intro s8
            refine qb_iload_n hX 46 rfl rfl ?_
            refine qb_join 96 (fun s10 => [some (.ref (qx_ad X this)), some (.int p1), none, none, some (.int x3), some (.int x7), none, none]) (fun s10 => [.int s10]) ?_ ?_
            ·
              refine qb_ifeq hX 47 95 rfl (by decide) ?_ ?_
              ·
                refine qb_iconst hX 50 0 rfl (by decide) ?_
                exact qb_exit (fun σ h => qj_wk (ρ' := [some (.ref (qx_ad X this)), some (.int p1), none, none, some (.int x3), some (.int x7), none, none]) (qw_s (qw_s (qw_n (qw_n (qw_s (qw_s (qw_n (qw_n (qw_0))))))))) h)
              ·
                refine qb_iconst hX 48 1 rfl (by decide) ?_
                exact qb_exit (fun σ h => qj_goto hX 49 rfl (by decide) (qj_wk (ρ' := [some (.ref (qx_ad X this)), some (.int p1), none, none, some (.int x3), some (.int x7), none, none]) (qw_s (qw_s (qw_n (qw_n (qw_s (qw_s (qw_n (qw_n (qw_0))))))))) h))
            · intro s10
              refine qb_istore hX 51 ([some (.ref (qx_ad X this)), some (.int p1), none, none, some (.int x3), some (.int x7), some (.int s10), none]) rfl (by decide) rfl ?_
              refine qb_iload_n hX 52 rfl rfl ?_
              refine qb_join 139 (fun s11 => [some (.ref (qx_ad X this)), some (.int p1), none, none, none, some (.int x7), some (.int s11), none]) (fun s11 => []) ?_ ?_
              ·
                refine qb_join2 107 (fun s12 => [some (.ref (qx_ad X this)), some (.int p1), none, none, some (.int x3), some (.int x7), none, none]) (fun s12 => []) ?_ ?_
                ·
                  refine qb_ifeq hX 53 107 rfl (by decide) ?_ ?_
                  ·
                    exact qb_exit (fun σ h => qj_wk (ρ' := [some (.ref (qx_ad X this)), some (.int p1), none, none, some (.int x3), some (.int x7), none, none]) (qw_s (qw_s (qw_n (qw_n (qw_s (qw_s (qw_n (qw_n (qw_0))))))))) h)
                  ·
                    refine qb_iload_n hX 54 rfl rfl ?_
                    refine qb_iconst hX 55 3 rfl (by decide) ?_
                    refine qb_icne hX 56 139 rfl (by decide) ?_ ?_
                    ·
                      exact qb_exit (fun σ h => qj_wk (ρ' := [some (.ref (qx_ad X this)), some (.int p1), none, none, none, some (.int x7), some (.int s10), none]) (qw_s (qw_s (qw_n (qw_n (qw_n (qw_s (qw_s (qw_n (qw_0))))))))) h)
                    ·
                      exact qb_exit (fun σ h => qj_wk (ρ' := [some (.ref (qx_ad X this)), some (.int p1), none, none, some (.int x3), some (.int x7), none, none]) (qw_s (qw_s (qw_n (qw_n (qw_s (qw_s (qw_n (qw_n (qw_0))))))))) h)
                · intro s12
                  refine qb_aload_n hX 57 rfl rfl ?_
                  refine qb_callI hX 58 rfl cv_Teller_55 (jm_Teller_place (qk_GI hX) this  hthis ) (ci := 6) hthis ⟨rfl, rfl, rfl, by decide, by decide⟩ rfl (by exact Nat.le_of_ble_eq_true rfl) (fun x13 => ?_)
                  refine qb_istore hX 59 ([some (.ref (qx_ad X this)), some (.int p1), none, none, some (.int x3), some (.int x7), none, some (.int x13)]) rfl (by decide) rfl ?_
                  refine qb_aload_n hX 60 rfl rfl ?_
                  refine qb_iconst hX 61 1 rfl (by decide) ?_
                  refine qb_bipush hX 62 30 rfl (by decide) ?_
                  refine qb_callI hX 63 rfl cv_Teller_126 (jm_Teller_readNumber (qk_GI hX) this 1 30 hthis ) (ci := 6) hthis ⟨rfl, rfl, rfl, by decide, by decide⟩ rfl (by exact Nat.le_of_ble_eq_true rfl) (fun x14 => ?_)
                  refine qb_istore hX 64 ([some (.ref (qx_ad X this)), some (.int p1), none, none, some (.int x3), some (.int x7), some (.int x14), some (.int x13)]) rfl (by decide) rfl ?_
                  refine qb_iload hX 65 rfl rfl ?_
                  refine qb_iload hX 66 rfl rfl ?_
                  refine qb_iadd hX 67 rfl ?_
                  refine qb_bipush hX 68 90 rfl (by decide) ?_
                  refine qb_icle hX 69 139 rfl (by decide) ?_ ?_
                  ·
                    exact qb_exit (fun σ h => qj_wk (ρ' := [some (.ref (qx_ad X this)), some (.int p1), none, none, none, some (.int x7), some (.int x14), none]) (qw_s (qw_s (qw_n (qw_n (qw_n (qw_s (qw_s (qw_n (qw_0))))))))) h)
                  ·
                    refine qb_aload_n hX 70 rfl rfl ?_
                    refine qb_iload hX 71 rfl rfl ?_
                    refine qb_iconst hX 72 3 rfl (by decide) ?_
                    refine qb_callV hX 73 rfl cv_Teller_58 (jm_Teller_wrong (qk_GI hX) this x13 3 hthis ) (ci := 6) hthis ⟨rfl, rfl, rfl, by decide, by decide⟩ rfl (by exact Nat.le_of_ble_eq_true rfl) ?_
                    exact qb_exit (fun σ h => qj_wk (ρ' := [some (.ref (qx_ad X this)), some (.int p1), none, none, none, some (.int x7), some (.int x14), none]) (qw_s (qw_s (qw_n (qw_n (qw_n (qw_s (qw_s (qw_n (qw_0))))))))) h)
              · intro s11
                refine qb_aload_n hX 74 rfl rfl ?_
                refine qb_getR hX 75 rfl fl_Teller_18 hthis rfl ?_
                refine qb_iload hX 76 rfl rfl ?_
                refine qb_iconst hX 77 1 rfl (by decide) ?_
                refine qb_iload hX 78 rfl rfl ?_
                refine qb_callV hX 79 rfl cv_Teller_138 (jm_Run_putCell (qk_GI hX) (qm_rf this 1) x7 1 s11 (kf_Teller_1 hthis) ) (ci := 4) (kf_Teller_1 hthis) ⟨rfl, rfl, rfl, by decide, by decide⟩ rfl (by exact Nat.le_of_ble_eq_true rfl) ?_
                refine qb_aload_n hX 80 rfl rfl ?_
                refine qb_getR hX 81 rfl fl_Teller_18 hthis rfl ?_
                refine qb_iload hX 82 rfl rfl ?_
                refine qb_iconst hX 83 2 rfl (by decide) ?_
                refine qb_aload_n hX 84 rfl rfl ?_
                refine qb_iconst hX 85 1 rfl (by decide) ?_
                refine qb_iload_n hX 86 rfl rfl ?_
                refine qb_calSI hX 87 rfl cv_Teller_142 (jm_Teller_mostHigh (qk_GI hX) p1 ) ⟨rfl, by decide, by decide⟩ rfl (by exact Nat.le_of_ble_eq_true rfl) (fun x15 => ?_)
                refine qb_callI hX 88 rfl cv_Teller_126 (jm_Teller_readNumber (qk_GI hX) this 1 x15 hthis ) (ci := 6) hthis ⟨rfl, rfl, rfl, by decide, by decide⟩ rfl (by exact Nat.le_of_ble_eq_true rfl) (fun x16 => ?_)
                refine qb_callV hX 89 rfl cv_Teller_138 (jm_Run_putCell (qk_GI hX) (qm_rf this 1) x7 2 x16 (kf_Teller_1 hthis) ) (ci := 4) (kf_Teller_1 hthis) ⟨rfl, rfl, rfl, by decide, by decide⟩ rfl (by exact Nat.le_of_ble_eq_true rfl) ?_
                refine qb_iload_n hX 90 rfl rfl ?_
                refine qb_iconst hX 91 4 rfl (by decide) ?_
                refine qb_iceq hX 92 182 rfl (by decide) ?_ ?_
                ·
                  exact qb_vret hX 97 rfl hR (fun _ h => h)
                ·
                  refine qb_aload_n hX 93 rfl rfl ?_
                  refine qb_iload hX 94 rfl rfl ?_
                  refine qb_iload_n hX 95 rfl rfl ?_
                  refine qb_callV hX 96 rfl cv_Teller_145 (jm_Teller_readWords (qk_GI hX) this x7 p1 hthis ) (ci := 6) hthis ⟨rfl, rfl, rfl, by decide, by decide⟩ rfl (by exact Nat.le_of_ble_eq_true rfl) ?_
                  exact qb_vret hX 97 rfl hR (fun _ h => h)
    · intro s5
      refine qb_aload_n hX 24 rfl rfl ?_
      refine qb_iload_n hX 25 rfl rfl ?_
      refine qb_iconst hX 26 3 rfl (by decide) ?_
      refine qb_callV hX 27 rfl cv_Teller_58 (jm_Teller_wrong (qk_GI hX) this p2 3 hthis ) (ci := 6) hthis ⟨rfl, rfl, rfl, by decide, by decide⟩ rfl (by exact Nat.le_of_ble_eq_true rfl) ?_
      exact qb_vret hX 28 rfl hR (fun _ h => h)
theorem jm_Teller_readBlock {l : Launch} {G : qm_G} (hG : qm_GI G) (this : Nat) (p1 : Int32) (p2 : Int32) (hthis : (qm_kd this).1 = 16) : qm_MV l G jy_Teller_readBlock prog_8_method_10_code 8 4 97 [.ref (G.1 this), .int p1, .int p2] (jf_Teller_readBlock this p1 p2) :=
  qm_metV (by decide +kernel) jd_Teller_readBlock (fun v hv => by simp only [List.mem_cons, List.not_mem_nil, or_false] at hv; rcases hv with rfl | rfl | rfl <;> rfl) (by exact Nat.le_of_ble_eq_true rfl) hG (fun X hl hg hX σ0 hR => by subst hl; subst hg; exact jb_Teller_readBlock hX hR this p1 p2 hthis)
def jl_Teller_readPart : List qm_I := [(0, .aload_n 0, 1, 1), (1, .invokevirtual 55, 3, 4), (4, .istore_n 1, 1, 5), (5, .aload_n 0, 1, 6), (6, .invokevirtual 108, 3, 9), (9, .istore_n 2, 1, 10), (10, .iload_n 2, 1, 11), (11, .iconst (-1), 1, 12), (12, .if_icmp .eq 9, 3, 15), (15, .iload_n 2, 1, 16), (16, .bipush 13, 2, 18), (18, .if_icmp .lt 12, 3, 21), (21, .aload_n 0, 1, 22), (22, .iload_n 1, 1, 23), (23, .iconst 1, 1, 24), (24, .invokevirtual 58, 3, 27), (27, .goto 27, 3, 30), (30, .iload_n 2, 1, 31), (31, .bipush 8, 2, 33), (33, .if_icmp .ge 12, 3, 36), (36, .aload_n 0, 1, 37), (37, .iload_n 2, 1, 38), (38, .iload_n 1, 1, 39), (39, .invokevirtual 111, 3, 42), (42, .goto 12, 3, 45), (45, .aload_n 0, 1, 46), (46, .iload_n 2, 1, 47), (47, .bipush 8, 2, 49), (49, .isub, 1, 50), (50, .iload_n 1, 1, 51), (51, .invokevirtual 114, 3, 54), (54, .return_, 1, 55)]
theorem jd_Teller_readPart : qm_D prog_8_method_8_code jl_Teller_readPart := qm_D_of (by decide +kernel)
noncomputable def jf_Teller_readPart (this : Nat) : qm_M Unit :=
  mB (jf_Teller_place this) fun x1 =>
  mB (jf_Teller_readWord this) fun x2 =>
  mB (α := (Unit ⊕ Unit)) (
    if x2 = (-1) then
      mP (Sum.inl ())
    else
      if x2 < 13 then
        if 8 ≤ x2 then
          mB (jf_Teller_readBlock this (x2 - 8) x1) fun _ =>
          mP (Sum.inr ())
        else
          mB (jf_Teller_readSetting this x2 x1) fun _ =>
          mP (Sum.inr ())
      else
        mP (Sum.inl ())) (Sum.elim (fun s3 =>
    mB (jf_Teller_wrong this x1 1) fun _ =>
    mP ()) mP)
set_option maxRecDepth 20000 in
set_option maxHeartbeats 4000000 in
theorem jb_Teller_readPart {X : qm_X} (hX : qm_ok X qr_Teller prog_8_method_8_code 3 5 124 jl_Teller_readPart) {σ0 : qm_Mem} (hR : qm_RV X σ0) (this : Nat) (hthis : (qm_kd this).1 = 16) : qm_B X (jf_Teller_readPart this) 0 [some (.ref (qx_ad X this)), none, none] [] (fun _ σ1 => σ1 = σ0) := by
  unfold jf_Teller_readPart
  refine qb_aload_n hX 0 rfl rfl ?_
  refine qb_callI hX 1 rfl cv_Teller_55 (jm_Teller_place (qk_GI hX) this  hthis ) (ci := 6) hthis ⟨rfl, rfl, rfl, by decide, by decide⟩ rfl (by exact Nat.le_of_ble_eq_true rfl) (fun x1 => ?_)
  refine qb_istore_n hX 2 ([some (.ref (qx_ad X this)), some (.int x1), none]) rfl (by decide) rfl ?_
  refine qb_aload_n hX 3 rfl rfl ?_
  refine qb_callI hX 4 rfl cv_Teller_108 (jm_Teller_readWord (qk_GI hX) this  hthis ) (ci := 6) hthis ⟨rfl, rfl, rfl, by decide, by decide⟩ rfl (by exact Nat.le_of_ble_eq_true rfl) (fun x2 => ?_)
  refine qb_istore_n hX 5 ([some (.ref (qx_ad X this)), some (.int x1), some (.int x2)]) rfl (by decide) rfl ?_
  refine qb_iload_n hX 6 rfl rfl ?_
  refine qb_iconst hX 7 (-1) rfl (by decide) ?_
  refine qb_join2 21 (fun s3 => [some (.ref (qx_ad X this)), some (.int x1), none]) (fun s3 => []) ?_ ?_
  ·
    refine qb_iceq hX 8 21 rfl (by decide) ?_ ?_
    ·
      exact qb_exit (fun σ h => qj_wk (ρ' := [some (.ref (qx_ad X this)), some (.int x1), none]) (qw_s (qw_s (qw_n (qw_0)))) h)
    ·
      refine qb_iload_n hX 9 rfl rfl ?_
      refine qb_bipush hX 10 13 rfl (by decide) ?_
      refine qb_iclt hX 11 30 rfl (by decide) ?_ ?_
      ·
        refine qb_iload_n hX 17 rfl rfl ?_
        refine qb_bipush hX 18 8 rfl (by decide) ?_
        refine qb_icge hX 19 45 rfl (by decide) ?_ ?_
        ·
          refine qb_aload_n hX 25 rfl rfl ?_
          refine qb_iload_n hX 26 rfl rfl ?_
          refine qb_bipush hX 27 8 rfl (by decide) ?_
          refine qb_isub hX 28 rfl ?_
          refine qb_iload_n hX 29 rfl rfl ?_
          refine qb_callV hX 30 rfl cv_Teller_114 (jm_Teller_readBlock (qk_GI hX) this (x2 - 8) x1 hthis ) (ci := 6) hthis ⟨rfl, rfl, rfl, by decide, by decide⟩ rfl (by exact Nat.le_of_ble_eq_true rfl) ?_
          exact qb_vret hX 31 rfl hR (fun _ h => h)
        ·
          refine qb_aload_n hX 20 rfl rfl ?_
          refine qb_iload_n hX 21 rfl rfl ?_
          refine qb_iload_n hX 22 rfl rfl ?_
          refine qb_callV hX 23 rfl cv_Teller_111 (jm_Teller_readSetting (qk_GI hX) this x2 x1 hthis ) (ci := 6) hthis ⟨rfl, rfl, rfl, by decide, by decide⟩ rfl (by exact Nat.le_of_ble_eq_true rfl) ?_
          refine qb_goto hX 24 (tgt := 54) rfl (by decide) ?_
          exact qb_vret hX 31 rfl hR (fun _ h => h)
      ·
        exact qb_exit (fun σ h => qj_wk (ρ' := [some (.ref (qx_ad X this)), some (.int x1), none]) (qw_s (qw_s (qw_n (qw_0)))) h)
  · intro s3
    refine qb_aload_n hX 12 rfl rfl ?_
    refine qb_iload_n hX 13 rfl rfl ?_
    refine qb_iconst hX 14 1 rfl (by decide) ?_
    refine qb_callV hX 15 rfl cv_Teller_58 (jm_Teller_wrong (qk_GI hX) this x1 1 hthis ) (ci := 6) hthis ⟨rfl, rfl, rfl, by decide, by decide⟩ rfl (by exact Nat.le_of_ble_eq_true rfl) ?_
    refine qb_goto hX 16 (tgt := 54) rfl (by decide) ?_
    exact qb_vret hX 31 rfl hR (fun _ h => h)
theorem jm_Teller_readPart {l : Launch} {G : qm_G} (hG : qm_GI G) (this : Nat) (hthis : (qm_kd this).1 = 16) : qm_MV l G jy_Teller_readPart prog_8_method_8_code 3 5 124 [.ref (G.1 this)] (jf_Teller_readPart this) :=
  qm_metV (by decide +kernel) jd_Teller_readPart (fun v hv => by simp only [List.mem_cons, List.not_mem_nil, or_false] at hv; rcases hv with rfl <;> rfl) (by exact Nat.le_of_ble_eq_true rfl) hG (fun X hl hg hX σ0 hR => by subst hl; subst hg; exact jb_Teller_readPart hX hR this hthis)
def jl_Top_feed : List qm_I := [(0, .aload_n 0, 1, 1), (1, .getfield 19, 3, 4), (4, .getfield 64, 3, 7), (7, .bipush 20, 2, 9), (9, .iadd, 1, 10), (10, .sipush 400, 3, 13), (13, .if_icmp .le 5, 3, 16), (16, .iconst (-1), 1, 17), (17, .ireturn, 1, 18), (18, .aload_n 0, 1, 19), (19, .getfield 19, 3, 22), (22, .iload_n 1, 1, 23), (23, .invokevirtual 68, 3, 26), (26, .aload_n 0, 1, 27), (27, .getfield 19, 3, 30), (30, .iload_n 2, 1, 31), (31, .invokevirtual 68, 3, 34), (34, .aload_n 0, 1, 35), (35, .getfield 19, 3, 38), (38, .iload_n 3, 1, 39), (39, .invokevirtual 68, 3, 42), (42, .aload_n 0, 1, 43), (43, .getfield 19, 3, 46), (46, .iload 4, 2, 48), (48, .invokevirtual 68, 3, 51), (51, .aload_n 0, 1, 52), (52, .getfield 19, 3, 55), (55, .iload 5, 2, 57), (57, .invokevirtual 68, 3, 60), (60, .aload_n 0, 1, 61), (61, .getfield 19, 3, 64), (64, .getfield 64, 3, 67), (67, .ireturn, 1, 68)]
theorem jd_Top_feed : qm_D prog_1_method_2_code jl_Top_feed := qm_D_of (by decide +kernel)
noncomputable def jf_Top_feed (this : Nat) (p1 : Int32) (p2 : Int32) (p3 : Int32) (p4 : Int32) (p5 : Int32) : qm_M Int32 :=
  mB (mGt (qm_rf this 1) 1) fun x1 =>
  if (x1 + 20) ≤ 400 then
    mB (jf_Tape_append (qm_rf this 1) p1) fun _ =>
    mB (jf_Tape_append (qm_rf this 1) p2) fun _ =>
    mB (jf_Tape_append (qm_rf this 1) p3) fun _ =>
    mB (jf_Tape_append (qm_rf this 1) p4) fun _ =>
    mB (jf_Tape_append (qm_rf this 1) p5) fun _ =>
    mB (mGt (qm_rf this 1) 1) fun x2 =>
    mP x2
  else
    mP (-1)
set_option maxRecDepth 20000 in
set_option maxHeartbeats 4000000 in
theorem jb_Top_feed {X : qm_X} (hX : qm_ok X qr_Top prog_1_method_2_code 6 1 22 jl_Top_feed) {r0 : Int32} {σ0 : qm_Mem} (hR : qm_RI X r0 σ0 .int) (this : Nat) (p1 : Int32) (p2 : Int32) (p3 : Int32) (p4 : Int32) (p5 : Int32) (hthis : (qm_kd this).1 = 18) : qm_B X (jf_Top_feed this p1 p2 p3 p4 p5) 0 [some (.ref (qx_ad X this)), some (.int p1), some (.int p2), some (.int p3), some (.int p4), some (.int p5)] [] (fun r σ1 => r = r0 ∧ σ1 = σ0) := by
  unfold jf_Top_feed
  refine qb_aload_n hX 0 rfl rfl ?_
  refine qb_getR hX 1 rfl fl_Top_19 hthis rfl ?_
  refine qb_get hX 2 rfl fl_Top_64 (kf_Top_1 hthis) rfl (fun x1 => ?_)
  refine qb_bipush hX 3 20 rfl (by decide) ?_
  refine qb_iadd hX 4 rfl ?_
  refine qb_sipush hX 5 400 rfl (by decide) ?_
  refine qb_icle hX 6 18 rfl (by decide) ?_ ?_
  ·
    refine qb_aload_n hX 9 rfl rfl ?_
    refine qb_getR hX 10 rfl fl_Top_19 hthis rfl ?_
    refine qb_iload_n hX 11 rfl rfl ?_
    refine qb_callV hX 12 rfl cv_Top_68 (jm_Tape_append (qk_GI hX) (qm_rf this 1) p1 (kf_Top_1 hthis) ) (ci := 5) (kf_Top_1 hthis) ⟨rfl, rfl, rfl, by decide, by decide⟩ rfl (by exact Nat.le_of_ble_eq_true rfl) ?_
    refine qb_aload_n hX 13 rfl rfl ?_
    refine qb_getR hX 14 rfl fl_Top_19 hthis rfl ?_
    refine qb_iload_n hX 15 rfl rfl ?_
    refine qb_callV hX 16 rfl cv_Top_68 (jm_Tape_append (qk_GI hX) (qm_rf this 1) p2 (kf_Top_1 hthis) ) (ci := 5) (kf_Top_1 hthis) ⟨rfl, rfl, rfl, by decide, by decide⟩ rfl (by exact Nat.le_of_ble_eq_true rfl) ?_
    refine qb_aload_n hX 17 rfl rfl ?_
    refine qb_getR hX 18 rfl fl_Top_19 hthis rfl ?_
    refine qb_iload_n hX 19 rfl rfl ?_
    refine qb_callV hX 20 rfl cv_Top_68 (jm_Tape_append (qk_GI hX) (qm_rf this 1) p3 (kf_Top_1 hthis) ) (ci := 5) (kf_Top_1 hthis) ⟨rfl, rfl, rfl, by decide, by decide⟩ rfl (by exact Nat.le_of_ble_eq_true rfl) ?_
    refine qb_aload_n hX 21 rfl rfl ?_
    refine qb_getR hX 22 rfl fl_Top_19 hthis rfl ?_
    refine qb_iload hX 23 rfl rfl ?_
    refine qb_callV hX 24 rfl cv_Top_68 (jm_Tape_append (qk_GI hX) (qm_rf this 1) p4 (kf_Top_1 hthis) ) (ci := 5) (kf_Top_1 hthis) ⟨rfl, rfl, rfl, by decide, by decide⟩ rfl (by exact Nat.le_of_ble_eq_true rfl) ?_
    refine qb_aload_n hX 25 rfl rfl ?_
    refine qb_getR hX 26 rfl fl_Top_19 hthis rfl ?_
    refine qb_iload hX 27 rfl rfl ?_
    refine qb_callV hX 28 rfl cv_Top_68 (jm_Tape_append (qk_GI hX) (qm_rf this 1) p5 (kf_Top_1 hthis) ) (ci := 5) (kf_Top_1 hthis) ⟨rfl, rfl, rfl, by decide, by decide⟩ rfl (by exact Nat.le_of_ble_eq_true rfl) ?_
    refine qb_aload_n hX 29 rfl rfl ?_
    refine qb_getR hX 30 rfl fl_Top_19 hthis rfl ?_
    refine qb_get hX 31 rfl fl_Top_64 (kf_Top_1 hthis) rfl (fun x2 => ?_)
    exact qb_iret hX 32 rfl hR (fun _ h => h)
  ·
    refine qb_iconst hX 7 (-1) rfl (by decide) ?_
    exact qb_iret hX 8 rfl hR (fun _ h => h)
theorem jm_Top_feed {l : Launch} {G : qm_G} (hG : qm_GI G) (this : Nat) (p1 : Int32) (p2 : Int32) (p3 : Int32) (p4 : Int32) (p5 : Int32) (hthis : (qm_kd this).1 = 18) : qm_MI l G jy_Top_feed prog_1_method_2_code 6 (some .int) 1 22 [.ref (G.1 this), .int p1, .int p2, .int p3, .int p4, .int p5] (jf_Top_feed this p1 p2 p3 p4 p5) :=
  qm_metI (by decide +kernel) jd_Top_feed (fun v hv => by simp only [List.mem_cons, List.not_mem_nil, or_false] at hv; rcases hv with rfl | rfl | rfl | rfl | rfl | rfl <;> rfl) (by exact Nat.le_of_ble_eq_true rfl) hG rfl (fun X hl hg hX r0 σ0 hR => by subst hl; subst hg; exact jb_Top_feed hX hR this p1 p2 p3 p4 p5 hthis)
def jl_Top_end : List qm_I := [(0, .iload_n 1, 1, 1), (1, .ifCond .lt 14, 3, 4), (4, .iload_n 1, 1, 5), (5, .aload_n 0, 1, 6), (6, .getfield 19, 3, 9), (9, .getfield 64, 3, 12), (12, .if_icmp .le 5, 3, 15), (15, .iconst (-1), 1, 16), (16, .ireturn, 1, 17), (17, .aload_n 0, 1, 18), (18, .getfield 19, 3, 21), (21, .iload_n 1, 1, 22), (22, .putfield 64, 3, 25), (25, .iload_n 1, 1, 26), (26, .ireturn, 1, 27)]
theorem jd_Top_end : qm_D prog_1_method_3_code jl_Top_end := qm_D_of (by decide +kernel)
noncomputable def jf_Top_end (this : Nat) (p1 : Int32) : qm_M Int32 :=
  if p1 < 0 then
    mP (-1)
  else
    mB (mGt (qm_rf this 1) 1) fun x1 =>
    if p1 ≤ x1 then
      mB (mPt (qm_rf this 1) 1 p1) fun _ =>
      mP p1
    else
      mP (-1)
set_option maxRecDepth 20000 in
set_option maxHeartbeats 4000000 in
theorem jb_Top_end {X : qm_X} (hX : qm_ok X qr_Top prog_1_method_3_code 2 0 0 jl_Top_end) {r0 : Int32} {σ0 : qm_Mem} (hR : qm_RI X r0 σ0 .int) (this : Nat) (p1 : Int32) (hthis : (qm_kd this).1 = 18) : qm_B X (jf_Top_end this p1) 0 [some (.ref (qx_ad X this)), some (.int p1)] [] (fun r σ1 => r = r0 ∧ σ1 = σ0) := by
  unfold jf_Top_end
  refine qb_iload_n hX 0 rfl rfl ?_
  refine qb_iflt hX 1 15 rfl (by decide) ?_ ?_
  ·
    refine qb_iconst hX 7 (-1) rfl (by decide) ?_
    exact qb_iret hX 8 rfl hR (fun _ h => h)
  ·
    refine qb_iload_n hX 2 rfl rfl ?_
    refine qb_aload_n hX 3 rfl rfl ?_
    refine qb_getR hX 4 rfl fl_Top_19 hthis rfl ?_
    refine qb_get hX 5 rfl fl_Top_64 (kf_Top_1 hthis) rfl (fun x1 => ?_)
    refine qb_icle hX 6 17 rfl (by decide) ?_ ?_
    ·
      refine qb_aload_n hX 9 rfl rfl ?_
      refine qb_getR hX 10 rfl fl_Top_19 hthis rfl ?_
      refine qb_iload_n hX 11 rfl rfl ?_
      refine qb_put hX 12 rfl fp_Top_64 (kf_Top_1 hthis) ?_
      refine qb_iload_n hX 13 rfl rfl ?_
      exact qb_iret hX 14 rfl hR (fun _ h => h)
    ·
      refine qb_iconst hX 7 (-1) rfl (by decide) ?_
      exact qb_iret hX 8 rfl hR (fun _ h => h)
theorem jm_Top_end {l : Launch} {G : qm_G} (hG : qm_GI G) (this : Nat) (p1 : Int32) (hthis : (qm_kd this).1 = 18) : qm_MI l G jy_Top_end prog_1_method_3_code 2 (some .int) 0 0 [.ref (G.1 this), .int p1] (jf_Top_end this p1) :=
  qm_metI (by decide +kernel) jd_Top_end (fun v hv => by simp only [List.mem_cons, List.not_mem_nil, or_false] at hv; rcases hv with rfl | rfl <;> rfl) (by exact Nat.le_of_ble_eq_true rfl) hG rfl (fun X hl hg hX r0 σ0 hR => by subst hl; subst hg; exact jb_Top_end hX hR this p1 hthis)
def jl_Top_changed : List qm_I := [(0, .aload_n 0, 1, 1), (1, .iconst 0, 1, 2), (2, .putfield 330, 3, 5), (5, .aload_n 0, 1, 6), (6, .iconst 0, 1, 7), (7, .putfield 334, 3, 10), (10, .return_, 1, 11)]
theorem jd_Top_changed : qm_D prog_1_method_38_code jl_Top_changed := qm_D_of (by decide +kernel)
noncomputable def jf_Top_changed (this : Nat) : qm_M Unit :=
  mB (mPz this 9 0) fun _ =>
  mB (mPz this 10 0) fun _ =>
  mP ()
set_option maxRecDepth 20000 in
set_option maxHeartbeats 4000000 in
theorem jb_Top_changed {X : qm_X} (hX : qm_ok X qr_Top prog_1_method_38_code 1 0 0 jl_Top_changed) {σ0 : qm_Mem} (hR : qm_RV X σ0) (this : Nat) (hthis : (qm_kd this).1 = 18) : qm_B X (jf_Top_changed this) 0 [some (.ref (qx_ad X this))] [] (fun _ σ1 => σ1 = σ0) := by
  unfold jf_Top_changed
  refine qb_aload_n hX 0 rfl rfl ?_
  refine qb_iconst hX 1 0 rfl (by decide) ?_
  refine qb_putZ hX 2 rfl fp_Top_330 hthis ?_
  refine qb_aload_n hX 3 rfl rfl ?_
  refine qb_iconst hX 4 0 rfl (by decide) ?_
  refine qb_putZ hX 5 rfl fp_Top_334 hthis ?_
  exact qb_vret hX 6 rfl hR (fun _ h => h)
theorem jm_Top_changed {l : Launch} {G : qm_G} (hG : qm_GI G) (this : Nat) (hthis : (qm_kd this).1 = 18) : qm_MV l G jy_Top_changed prog_1_method_38_code 1 0 0 [.ref (G.1 this)] (jf_Top_changed this) :=
  qm_metV (by decide +kernel) jd_Top_changed (fun v hv => by simp only [List.mem_cons, List.not_mem_nil, or_false] at hv; rcases hv with rfl <;> rfl) (by exact Nat.le_of_ble_eq_true rfl) hG (fun X hl hg hX σ0 hR => by subst hl; subst hg; exact jb_Top_changed hX hR this hthis)
def jl_Top_beginAct : List qm_I := [(0, .aload_n 0, 1, 1), (1, .getfield 35, 3, 4), (4, .aload_n 0, 1, 5), (5, .getfield 12, 3, 8), (8, .invokevirtual 327, 3, 11), (11, .aload_n 0, 1, 12), (12, .invokevirtual 86, 3, 15), (15, .return_, 1, 16)]
theorem jd_Top_beginAct : qm_D prog_1_method_37_code jl_Top_beginAct := qm_D_of (by decide +kernel)
noncomputable def jf_Top_beginAct (this : Nat) : qm_M Unit :=
  mB (jf_Past_push (qm_rf this 3) (qm_rf this 0)) fun _ =>
  mB (jf_Top_changed this) fun _ =>
  mP ()
set_option maxRecDepth 20000 in
set_option maxHeartbeats 4000000 in
theorem jb_Top_beginAct {X : qm_X} (hX : qm_ok X qr_Top prog_1_method_37_code 1 2 43 jl_Top_beginAct) {σ0 : qm_Mem} (hR : qm_RV X σ0) (this : Nat) (hthis : (qm_kd this).1 = 18) : qm_B X (jf_Top_beginAct this) 0 [some (.ref (qx_ad X this))] [] (fun _ σ1 => σ1 = σ0) := by
  unfold jf_Top_beginAct
  refine qb_aload_n hX 0 rfl rfl ?_
  refine qb_getR hX 1 rfl fl_Top_35 hthis rfl ?_
  refine qb_aload_n hX 2 rfl rfl ?_
  refine qb_getR hX 3 rfl fl_Top_12 hthis rfl ?_
  refine qb_callV hX 4 rfl cv_Top_327 (jm_Past_push (qk_GI hX) (qm_rf this 3) (qm_rf this 0) (kf_Top_3 hthis) (kf_Top_0 hthis)) (ci := 2) (kf_Top_3 hthis) ⟨rfl, rfl, rfl, by decide, by decide⟩ rfl (by exact Nat.le_of_ble_eq_true rfl) ?_
  refine qb_aload_n hX 5 rfl rfl ?_
  refine qb_callV hX 6 rfl cv_Top_86 (jm_Top_changed (qk_GI hX) this  hthis ) (ci := 8) hthis ⟨rfl, rfl, rfl, by decide, by decide⟩ rfl (by exact Nat.le_of_ble_eq_true rfl) ?_
  exact qb_vret hX 7 rfl hR (fun _ h => h)
theorem jm_Top_beginAct {l : Launch} {G : qm_G} (hG : qm_GI G) (this : Nat) (hthis : (qm_kd this).1 = 18) : qm_MV l G jy_Top_beginAct prog_1_method_37_code 1 2 43 [.ref (G.1 this)] (jf_Top_beginAct this) :=
  qm_metV (by decide +kernel) jd_Top_beginAct (fun v hv => by simp only [List.mem_cons, List.not_mem_nil, or_false] at hv; rcases hv with rfl <;> rfl) (by exact Nat.le_of_ble_eq_true rfl) hG (fun X hl hg hX σ0 hR => by subst hl; subst hg; exact jb_Top_beginAct hX hR this hthis)
def jl_Top_set : List qm_I := [(0, .iload_n 1, 1, 1), (1, .iload_n 2, 1, 2), (2, .invokestatic 89, 3, 5), (5, .ifCond .ne 5, 3, 8), (8, .iconst (-1), 1, 9), (9, .ireturn, 1, 10), (10, .aload_n 0, 1, 11), (11, .getfield 12, 3, 14), (14, .iload_n 1, 1, 15), (15, .invokevirtual 93, 3, 18), (18, .istore_n 3, 1, 19), (19, .iload_n 3, 1, 20), (20, .iload_n 2, 1, 21), (21, .if_icmp .ne 6, 3, 24), (24, .bipush (-2), 2, 26), (26, .ireturn, 1, 27), (27, .aload_n 0, 1, 28), (28, .invokevirtual 97, 3, 31), (31, .aload_n 0, 1, 32), (32, .getfield 12, 3, 35), (35, .iload_n 1, 1, 36), (36, .iload_n 2, 1, 37), (37, .invokevirtual 100, 3, 40), (40, .iload_n 3, 1, 41), (41, .ireturn, 1, 42)]
theorem jd_Top_set : qm_D prog_1_method_5_code jl_Top_set := qm_D_of (by decide +kernel)
noncomputable def jf_Top_set (this : Nat) (p1 : Int32) (p2 : Int32) : qm_M Int32 :=
  mB (jf_Run_takes p1 p2) fun x1 =>
  if ¬ x1 = 0 then
    mB (jf_Run_setting (qm_rf this 0) p1) fun x2 =>
    if ¬ x2 = p2 then
      mB (jf_Top_beginAct this) fun _ =>
      mB (jf_Run_put (qm_rf this 0) p1 p2) fun _ =>
      mP x2
    else
      mP (-2)
  else
    mP (-1)
set_option maxRecDepth 20000 in
set_option maxHeartbeats 4000000 in
theorem jb_Top_set {X : qm_X} (hX : qm_ok X qr_Top prog_1_method_5_code 4 3 63 jl_Top_set) {r0 : Int32} {σ0 : qm_Mem} (hR : qm_RI X r0 σ0 .int) (this : Nat) (p1 : Int32) (p2 : Int32) (hthis : (qm_kd this).1 = 18) : qm_B X (jf_Top_set this p1 p2) 0 [some (.ref (qx_ad X this)), some (.int p1), some (.int p2), none] [] (fun r σ1 => r = r0 ∧ σ1 = σ0) := by
  unfold jf_Top_set
  refine qb_iload_n hX 0 rfl rfl ?_
  refine qb_iload_n hX 1 rfl rfl ?_
  refine qb_calSI hX 2 rfl cv_Top_89 (jm_Run_takes (qk_GI hX) p1 p2 ) ⟨rfl, by decide, by decide⟩ rfl (by exact Nat.le_of_ble_eq_true rfl) (fun x1 => ?_)
  refine qb_ifne hX 3 10 rfl (by decide) ?_ ?_
  ·
    refine qb_aload_n hX 6 rfl rfl ?_
    refine qb_getR hX 7 rfl fl_Top_12 hthis rfl ?_
    refine qb_iload_n hX 8 rfl rfl ?_
    refine qb_callI hX 9 rfl cv_Top_93 (jm_Run_setting (qk_GI hX) (qm_rf this 0) p1 (kf_Top_0 hthis) ) (ci := 4) (kf_Top_0 hthis) ⟨rfl, rfl, rfl, by decide, by decide⟩ rfl (by exact Nat.le_of_ble_eq_true rfl) (fun x2 => ?_)
    refine qb_istore_n hX 10 ([some (.ref (qx_ad X this)), some (.int p1), some (.int p2), some (.int x2)]) rfl (by decide) rfl ?_
    refine qb_iload_n hX 11 rfl rfl ?_
    refine qb_iload_n hX 12 rfl rfl ?_
    refine qb_icne hX 13 27 rfl (by decide) ?_ ?_
    ·
      refine qb_aload_n hX 16 rfl rfl ?_
      refine qb_callV hX 17 rfl cv_Top_97 (jm_Top_beginAct (qk_GI hX) this  hthis ) (ci := 8) hthis ⟨rfl, rfl, rfl, by decide, by decide⟩ rfl (by exact Nat.le_of_ble_eq_true rfl) ?_
      refine qb_aload_n hX 18 rfl rfl ?_
      refine qb_getR hX 19 rfl fl_Top_12 hthis rfl ?_
      refine qb_iload_n hX 20 rfl rfl ?_
      refine qb_iload_n hX 21 rfl rfl ?_
      refine qb_callV hX 22 rfl cv_Top_100 (jm_Run_put (qk_GI hX) (qm_rf this 0) p1 p2 (kf_Top_0 hthis) ) (ci := 4) (kf_Top_0 hthis) ⟨rfl, rfl, rfl, by decide, by decide⟩ rfl (by exact Nat.le_of_ble_eq_true rfl) ?_
      refine qb_iload_n hX 23 rfl rfl ?_
      exact qb_iret hX 24 rfl hR (fun _ h => h)
    ·
      refine qb_bipush hX 14 (-2) rfl (by decide) ?_
      exact qb_iret hX 15 rfl hR (fun _ h => h)
  ·
    refine qb_iconst hX 4 (-1) rfl (by decide) ?_
    exact qb_iret hX 5 rfl hR (fun _ h => h)
theorem jm_Top_set {l : Launch} {G : qm_G} (hG : qm_GI G) (this : Nat) (p1 : Int32) (p2 : Int32) (hthis : (qm_kd this).1 = 18) : qm_MI l G jy_Top_set prog_1_method_5_code 4 (some .int) 3 63 [.ref (G.1 this), .int p1, .int p2] (jf_Top_set this p1 p2) :=
  qm_metI (by decide +kernel) jd_Top_set (fun v hv => by simp only [List.mem_cons, List.not_mem_nil, or_false] at hv; rcases hv with rfl | rfl | rfl <;> rfl) (by exact Nat.le_of_ble_eq_true rfl) hG rfl (fun X hl hg hX r0 σ0 hR => by subst hl; subst hg; exact jb_Top_set hX hR this p1 p2 hthis)
def jl_Top_tie : List qm_I := [(0, .aload_n 0, 1, 1), (1, .getfield 12, 3, 4), (4, .iload_n 1, 1, 5), (5, .invokevirtual 104, 3, 8), (8, .ifCond .ne 5, 3, 11), (11, .iconst (-1), 1, 12), (12, .ireturn, 1, 13), (13, .iload_n 2, 1, 14), (14, .ifCond .eq 7, 3, 17), (17, .iconst 1, 1, 18), (18, .goto 4, 3, 21), (21, .iconst 0, 1, 22), (22, .istore_n 3, 1, 23), (23, .aload_n 0, 1, 24), (24, .getfield 12, 3, 27), (27, .iload_n 1, 1, 28), (28, .iconst 4, 1, 29), (29, .invokevirtual 108, 3, 32), (32, .iload_n 3, 1, 33), (33, .if_icmp .ne 6, 3, 36), (36, .bipush (-2), 2, 38), (38, .ireturn, 1, 39), (39, .aload_n 0, 1, 40), (40, .invokevirtual 97, 3, 43), (43, .aload_n 0, 1, 44), (44, .getfield 12, 3, 47), (47, .iload_n 1, 1, 48), (48, .iconst 4, 1, 49), (49, .iload_n 3, 1, 50), (50, .invokevirtual 112, 3, 53), (53, .iconst 1, 1, 54), (54, .ireturn, 1, 55)]
theorem jd_Top_tie : qm_D prog_1_method_6_code jl_Top_tie := qm_D_of (by decide +kernel)
noncomputable def jf_Top_tie (this : Nat) (p1 : Int32) (p2 : Int32) : qm_M Int32 :=
  mB (jf_Run_hasPieces (qm_rf this 0) p1) fun x1 =>
  if ¬ x1 = 0 then
    mB (α := Int32) (
      if p2 = 0 then
        mP 0
      else
        mP 1) fun s2 =>
    mB (jf_Run_cell (qm_rf this 0) p1 4) fun x3 =>
    if ¬ x3 = s2 then
      mB (jf_Top_beginAct this) fun _ =>
      mB (jf_Run_putCell (qm_rf this 0) p1 4 s2) fun _ =>
      mP 1
    else
      mP (-2)
  else
    mP (-1)
set_option maxRecDepth 20000 in
set_option maxHeartbeats 4000000 in
theorem jb_Top_tie {X : qm_X} (hX : qm_ok X qr_Top prog_1_method_6_code 4 3 63 jl_Top_tie) {r0 : Int32} {σ0 : qm_Mem} (hR : qm_RI X r0 σ0 .int) (this : Nat) (p1 : Int32) (p2 : Int32) (hthis : (qm_kd this).1 = 18) : qm_B X (jf_Top_tie this p1 p2) 0 [some (.ref (qx_ad X this)), some (.int p1), some (.int p2), none] [] (fun r σ1 => r = r0 ∧ σ1 = σ0) := by
  unfold jf_Top_tie
  refine qb_aload_n hX 0 rfl rfl ?_
  refine qb_getR hX 1 rfl fl_Top_12 hthis rfl ?_
  refine qb_iload_n hX 2 rfl rfl ?_
  refine qb_callI hX 3 rfl cv_Top_104 (jm_Run_hasPieces (qk_GI hX) (qm_rf this 0) p1 (kf_Top_0 hthis) ) (ci := 4) (kf_Top_0 hthis) ⟨rfl, rfl, rfl, by decide, by decide⟩ rfl (by exact Nat.le_of_ble_eq_true rfl) (fun x1 => ?_)
  refine qb_ifne hX 4 13 rfl (by decide) ?_ ?_
  ·
    refine qb_iload_n hX 7 rfl rfl ?_
    refine qb_join 22 (fun s2 => [some (.ref (qx_ad X this)), some (.int p1), none, none]) (fun s2 => [.int s2]) ?_ ?_
    ·
      refine qb_ifeq hX 8 21 rfl (by decide) ?_ ?_
      ·
        refine qb_iconst hX 11 0 rfl (by decide) ?_
        exact qb_exit (fun σ h => qj_wk (ρ' := [some (.ref (qx_ad X this)), some (.int p1), none, none]) (qw_s (qw_s (qw_n (qw_n (qw_0))))) h)
      ·
        refine qb_iconst hX 9 1 rfl (by decide) ?_
        exact qb_exit (fun σ h => qj_goto hX 10 rfl (by decide) (qj_wk (ρ' := [some (.ref (qx_ad X this)), some (.int p1), none, none]) (qw_s (qw_s (qw_n (qw_n (qw_0))))) h))
    · intro s2
      refine qb_istore_n hX 12 ([some (.ref (qx_ad X this)), some (.int p1), none, some (.int s2)]) rfl (by decide) rfl ?_
      refine qb_aload_n hX 13 rfl rfl ?_
      refine qb_getR hX 14 rfl fl_Top_12 hthis rfl ?_
      refine qb_iload_n hX 15 rfl rfl ?_
      refine qb_iconst hX 16 4 rfl (by decide) ?_
      refine qb_callI hX 17 rfl cv_Top_108 (jm_Run_cell (qk_GI hX) (qm_rf this 0) p1 4 (kf_Top_0 hthis) ) (ci := 4) (kf_Top_0 hthis) ⟨rfl, rfl, rfl, by decide, by decide⟩ rfl (by exact Nat.le_of_ble_eq_true rfl) (fun x3 => ?_)
      refine qb_iload_n hX 18 rfl rfl ?_
      refine qb_icne hX 19 39 rfl (by decide) ?_ ?_
      ·
        refine qb_aload_n hX 22 rfl rfl ?_
        refine qb_callV hX 23 rfl cv_Top_97 (jm_Top_beginAct (qk_GI hX) this  hthis ) (ci := 8) hthis ⟨rfl, rfl, rfl, by decide, by decide⟩ rfl (by exact Nat.le_of_ble_eq_true rfl) ?_
        refine qb_aload_n hX 24 rfl rfl ?_
        refine qb_getR hX 25 rfl fl_Top_12 hthis rfl ?_
        refine qb_iload_n hX 26 rfl rfl ?_
        refine qb_iconst hX 27 4 rfl (by decide) ?_
        refine qb_iload_n hX 28 rfl rfl ?_
        refine qb_callV hX 29 rfl cv_Top_112 (jm_Run_putCell (qk_GI hX) (qm_rf this 0) p1 4 s2 (kf_Top_0 hthis) ) (ci := 4) (kf_Top_0 hthis) ⟨rfl, rfl, rfl, by decide, by decide⟩ rfl (by exact Nat.le_of_ble_eq_true rfl) ?_
        refine qb_iconst hX 30 1 rfl (by decide) ?_
        exact qb_iret hX 31 rfl hR (fun _ h => h)
      ·
        refine qb_bipush hX 20 (-2) rfl (by decide) ?_
        exact qb_iret hX 21 rfl hR (fun _ h => h)
  ·
    refine qb_iconst hX 5 (-1) rfl (by decide) ?_
    exact qb_iret hX 6 rfl hR (fun _ h => h)
theorem jm_Top_tie {l : Launch} {G : qm_G} (hG : qm_GI G) (this : Nat) (p1 : Int32) (p2 : Int32) (hthis : (qm_kd this).1 = 18) : qm_MI l G jy_Top_tie prog_1_method_6_code 4 (some .int) 3 63 [.ref (G.1 this), .int p1, .int p2] (jf_Top_tie this p1 p2) :=
  qm_metI (by decide +kernel) jd_Top_tie (fun v hv => by simp only [List.mem_cons, List.not_mem_nil, or_false] at hv; rcases hv with rfl | rfl | rfl <;> rfl) (by exact Nat.le_of_ble_eq_true rfl) hG rfl (fun X hl hg hX r0 σ0 hR => by subst hl; subst hg; exact jb_Top_tie hX hR this p1 p2 hthis)
def jl_Top_space : List qm_I := [(0, .aload_n 0, 1, 1), (1, .getfield 12, 3, 4), (4, .iload_n 1, 1, 5), (5, .invokevirtual 104, 3, 8), (8, .ifCond .eq 13, 3, 11), (11, .iload_n 2, 1, 12), (12, .ifCond .lt 9, 3, 15), (15, .iload_n 2, 1, 16), (16, .bipush 30, 2, 18), (18, .if_icmp .le 5, 3, 21), (21, .iconst (-1), 1, 22), (22, .ireturn, 1, 23), (23, .aload_n 0, 1, 24), (24, .getfield 12, 3, 27), (27, .iload_n 1, 1, 28), (28, .bipush 6, 2, 30), (30, .invokevirtual 108, 3, 33), (33, .istore_n 3, 1, 34), (34, .iload_n 3, 1, 35), (35, .iload_n 2, 1, 36), (36, .if_icmp .ne 6, 3, 39), (39, .bipush (-2), 2, 41), (41, .ireturn, 1, 42), (42, .aload_n 0, 1, 43), (43, .invokevirtual 97, 3, 46), (46, .aload_n 0, 1, 47), (47, .getfield 12, 3, 50), (50, .iload_n 1, 1, 51), (51, .bipush 6, 2, 53), (53, .iload_n 2, 1, 54), (54, .invokevirtual 112, 3, 57), (57, .iload_n 3, 1, 58), (58, .ireturn, 1, 59)]
theorem jd_Top_space : qm_D prog_1_method_7_code jl_Top_space := qm_D_of (by decide +kernel)
noncomputable def jf_Top_space (this : Nat) (p1 : Int32) (p2 : Int32) : qm_M Int32 :=
  mB (jf_Run_hasPieces (qm_rf this 0) p1) fun x1 =>
  if x1 = 0 then
    mP (-1)
  else
    if p2 < 0 then
      mP (-1)
    else
      if p2 ≤ 30 then
        mB (jf_Run_cell (qm_rf this 0) p1 6) fun x2 =>
        if ¬ x2 = p2 then
          mB (jf_Top_beginAct this) fun _ =>
          mB (jf_Run_putCell (qm_rf this 0) p1 6 p2) fun _ =>
          mP x2
        else
          mP (-2)
      else
        mP (-1)
set_option maxRecDepth 20000 in
set_option maxHeartbeats 4000000 in
theorem jb_Top_space {X : qm_X} (hX : qm_ok X qr_Top prog_1_method_7_code 4 3 63 jl_Top_space) {r0 : Int32} {σ0 : qm_Mem} (hR : qm_RI X r0 σ0 .int) (this : Nat) (p1 : Int32) (p2 : Int32) (hthis : (qm_kd this).1 = 18) : qm_B X (jf_Top_space this p1 p2) 0 [some (.ref (qx_ad X this)), some (.int p1), some (.int p2), none] [] (fun r σ1 => r = r0 ∧ σ1 = σ0) := by
  unfold jf_Top_space
  refine qb_aload_n hX 0 rfl rfl ?_
  refine qb_getR hX 1 rfl fl_Top_12 hthis rfl ?_
  refine qb_iload_n hX 2 rfl rfl ?_
  refine qb_callI hX 3 rfl cv_Top_104 (jm_Run_hasPieces (qk_GI hX) (qm_rf this 0) p1 (kf_Top_0 hthis) ) (ci := 4) (kf_Top_0 hthis) ⟨rfl, rfl, rfl, by decide, by decide⟩ rfl (by exact Nat.le_of_ble_eq_true rfl) (fun x1 => ?_)
  refine qb_ifeq hX 4 21 rfl (by decide) ?_ ?_
  ·
    refine qb_iconst hX 10 (-1) rfl (by decide) ?_
    exact qb_iret hX 11 rfl hR (fun _ h => h)
  ·
    refine qb_iload_n hX 5 rfl rfl ?_
    refine qb_iflt hX 6 21 rfl (by decide) ?_ ?_
    ·
      refine qb_iconst hX 10 (-1) rfl (by decide) ?_
      exact qb_iret hX 11 rfl hR (fun _ h => h)
    ·
      refine qb_iload_n hX 7 rfl rfl ?_
      refine qb_bipush hX 8 30 rfl (by decide) ?_
      refine qb_icle hX 9 23 rfl (by decide) ?_ ?_
      ·
        refine qb_aload_n hX 12 rfl rfl ?_
        refine qb_getR hX 13 rfl fl_Top_12 hthis rfl ?_
        refine qb_iload_n hX 14 rfl rfl ?_
        refine qb_bipush hX 15 6 rfl (by decide) ?_
        refine qb_callI hX 16 rfl cv_Top_108 (jm_Run_cell (qk_GI hX) (qm_rf this 0) p1 6 (kf_Top_0 hthis) ) (ci := 4) (kf_Top_0 hthis) ⟨rfl, rfl, rfl, by decide, by decide⟩ rfl (by exact Nat.le_of_ble_eq_true rfl) (fun x2 => ?_)
        refine qb_istore_n hX 17 ([some (.ref (qx_ad X this)), some (.int p1), some (.int p2), some (.int x2)]) rfl (by decide) rfl ?_
        refine qb_iload_n hX 18 rfl rfl ?_
        refine qb_iload_n hX 19 rfl rfl ?_
        refine qb_icne hX 20 42 rfl (by decide) ?_ ?_
        ·
          refine qb_aload_n hX 23 rfl rfl ?_
          refine qb_callV hX 24 rfl cv_Top_97 (jm_Top_beginAct (qk_GI hX) this  hthis ) (ci := 8) hthis ⟨rfl, rfl, rfl, by decide, by decide⟩ rfl (by exact Nat.le_of_ble_eq_true rfl) ?_
          refine qb_aload_n hX 25 rfl rfl ?_
          refine qb_getR hX 26 rfl fl_Top_12 hthis rfl ?_
          refine qb_iload_n hX 27 rfl rfl ?_
          refine qb_bipush hX 28 6 rfl (by decide) ?_
          refine qb_iload_n hX 29 rfl rfl ?_
          refine qb_callV hX 30 rfl cv_Top_112 (jm_Run_putCell (qk_GI hX) (qm_rf this 0) p1 6 p2 (kf_Top_0 hthis) ) (ci := 4) (kf_Top_0 hthis) ⟨rfl, rfl, rfl, by decide, by decide⟩ rfl (by exact Nat.le_of_ble_eq_true rfl) ?_
          refine qb_iload_n hX 31 rfl rfl ?_
          exact qb_iret hX 32 rfl hR (fun _ h => h)
        ·
          refine qb_bipush hX 21 (-2) rfl (by decide) ?_
          exact qb_iret hX 22 rfl hR (fun _ h => h)
      ·
        refine qb_iconst hX 10 (-1) rfl (by decide) ?_
        exact qb_iret hX 11 rfl hR (fun _ h => h)
theorem jm_Top_space {l : Launch} {G : qm_G} (hG : qm_GI G) (this : Nat) (p1 : Int32) (p2 : Int32) (hthis : (qm_kd this).1 = 18) : qm_MI l G jy_Top_space prog_1_method_7_code 4 (some .int) 3 63 [.ref (G.1 this), .int p1, .int p2] (jf_Top_space this p1 p2) :=
  qm_metI (by decide +kernel) jd_Top_space (fun v hv => by simp only [List.mem_cons, List.not_mem_nil, or_false] at hv; rcases hv with rfl | rfl | rfl <;> rfl) (by exact Nat.le_of_ble_eq_true rfl) hG rfl (fun X hl hg hX r0 σ0 hR => by subst hl; subst hg; exact jb_Top_space hX hR this p1 p2 hthis)
def jl_Top_swap : List qm_I := [(0, .aload_n 0, 1, 1), (1, .getfield 12, 3, 4), (4, .iload_n 1, 1, 5), (5, .invokevirtual 116, 3, 8), (8, .ifCond .eq 19, 3, 11), (11, .aload_n 0, 1, 12), (12, .getfield 12, 3, 15), (15, .iload_n 2, 1, 16), (16, .invokevirtual 116, 3, 19), (19, .ifCond .eq 8, 3, 22), (22, .iload_n 1, 1, 23), (23, .iload_n 2, 1, 24), (24, .if_icmp .ne 5, 3, 27), (27, .iconst (-1), 1, 28), (28, .ireturn, 1, 29), (29, .aload_n 0, 1, 30), (30, .invokevirtual 97, 3, 33), (33, .aload_n 0, 1, 34), (34, .getfield 12, 3, 37), (37, .iload_n 1, 1, 38), (38, .iload_n 2, 1, 39), (39, .invokevirtual 119, 3, 42), (42, .iconst 1, 1, 43), (43, .ireturn, 1, 44)]
theorem jd_Top_swap : qm_D prog_1_method_8_code jl_Top_swap := qm_D_of (by decide +kernel)
noncomputable def jf_Top_swap (this : Nat) (p1 : Int32) (p2 : Int32) : qm_M Int32 :=
  mB (jf_Run_has (qm_rf this 0) p1) fun x1 =>
  if x1 = 0 then
    mP (-1)
  else
    mB (jf_Run_has (qm_rf this 0) p2) fun x2 =>
    if x2 = 0 then
      mP (-1)
    else
      if ¬ p1 = p2 then
        mB (jf_Top_beginAct this) fun _ =>
        mB (jf_Run_exchange (qm_rf this 0) p1 p2) fun _ =>
        mP 1
      else
        mP (-1)
set_option maxRecDepth 20000 in
set_option maxHeartbeats 4000000 in
theorem jb_Top_swap {X : qm_X} (hX : qm_ok X qr_Top prog_1_method_8_code 3 3 63 jl_Top_swap) {r0 : Int32} {σ0 : qm_Mem} (hR : qm_RI X r0 σ0 .int) (this : Nat) (p1 : Int32) (p2 : Int32) (hthis : (qm_kd this).1 = 18) : qm_B X (jf_Top_swap this p1 p2) 0 [some (.ref (qx_ad X this)), some (.int p1), some (.int p2)] [] (fun r σ1 => r = r0 ∧ σ1 = σ0) := by
  unfold jf_Top_swap
  refine qb_aload_n hX 0 rfl rfl ?_
  refine qb_getR hX 1 rfl fl_Top_12 hthis rfl ?_
  refine qb_iload_n hX 2 rfl rfl ?_
  refine qb_callI hX 3 rfl cv_Top_116 (jm_Run_has (qk_GI hX) (qm_rf this 0) p1 (kf_Top_0 hthis) ) (ci := 4) (kf_Top_0 hthis) ⟨rfl, rfl, rfl, by decide, by decide⟩ rfl (by exact Nat.le_of_ble_eq_true rfl) (fun x1 => ?_)
  refine qb_ifeq hX 4 27 rfl (by decide) ?_ ?_
  ·
    refine qb_iconst hX 13 (-1) rfl (by decide) ?_
    exact qb_iret hX 14 rfl hR (fun _ h => h)
  ·
    refine qb_aload_n hX 5 rfl rfl ?_
    refine qb_getR hX 6 rfl fl_Top_12 hthis rfl ?_
    refine qb_iload_n hX 7 rfl rfl ?_
    refine qb_callI hX 8 rfl cv_Top_116 (jm_Run_has (qk_GI hX) (qm_rf this 0) p2 (kf_Top_0 hthis) ) (ci := 4) (kf_Top_0 hthis) ⟨rfl, rfl, rfl, by decide, by decide⟩ rfl (by exact Nat.le_of_ble_eq_true rfl) (fun x2 => ?_)
    refine qb_ifeq hX 9 27 rfl (by decide) ?_ ?_
    ·
      refine qb_iconst hX 13 (-1) rfl (by decide) ?_
      exact qb_iret hX 14 rfl hR (fun _ h => h)
    ·
      refine qb_iload_n hX 10 rfl rfl ?_
      refine qb_iload_n hX 11 rfl rfl ?_
      refine qb_icne hX 12 29 rfl (by decide) ?_ ?_
      ·
        refine qb_aload_n hX 15 rfl rfl ?_
        refine qb_callV hX 16 rfl cv_Top_97 (jm_Top_beginAct (qk_GI hX) this  hthis ) (ci := 8) hthis ⟨rfl, rfl, rfl, by decide, by decide⟩ rfl (by exact Nat.le_of_ble_eq_true rfl) ?_
        refine qb_aload_n hX 17 rfl rfl ?_
        refine qb_getR hX 18 rfl fl_Top_12 hthis rfl ?_
        refine qb_iload_n hX 19 rfl rfl ?_
        refine qb_iload_n hX 20 rfl rfl ?_
        refine qb_callV hX 21 rfl cv_Top_119 (jm_Run_exchange (qk_GI hX) (qm_rf this 0) p1 p2 (kf_Top_0 hthis) ) (ci := 4) (kf_Top_0 hthis) ⟨rfl, rfl, rfl, by decide, by decide⟩ rfl (by exact Nat.le_of_ble_eq_true rfl) ?_
        refine qb_iconst hX 22 1 rfl (by decide) ?_
        exact qb_iret hX 23 rfl hR (fun _ h => h)
      ·
        refine qb_iconst hX 13 (-1) rfl (by decide) ?_
        exact qb_iret hX 14 rfl hR (fun _ h => h)
theorem jm_Top_swap {l : Launch} {G : qm_G} (hG : qm_GI G) (this : Nat) (p1 : Int32) (p2 : Int32) (hthis : (qm_kd this).1 = 18) : qm_MI l G jy_Top_swap prog_1_method_8_code 3 (some .int) 3 63 [.ref (G.1 this), .int p1, .int p2] (jf_Top_swap this p1 p2) :=
  qm_metI (by decide +kernel) jd_Top_swap (fun v hv => by simp only [List.mem_cons, List.not_mem_nil, or_false] at hv; rcases hv with rfl | rfl | rfl <;> rfl) (by exact Nat.le_of_ble_eq_true rfl) hG rfl (fun X hl hg hX r0 σ0 hR => by subst hl; subst hg; exact jb_Top_swap hX hR this p1 p2 hthis)
def jl_Top_again : List qm_I := [(0, .aload_n 0, 1, 1), (1, .getfield 12, 3, 4), (4, .iload_n 1, 1, 5), (5, .invokevirtual 116, 3, 8), (8, .ifCond .ne 5, 3, 11), (11, .iconst (-1), 1, 12), (12, .ireturn, 1, 13), (13, .aload_n 0, 1, 14), (14, .getfield 12, 3, 17), (17, .getfield 122, 3, 20), (20, .bipush 16, 2, 22), (22, .if_icmp .ge 25, 3, 25), (25, .aload_n 0, 1, 26), (26, .getfield 12, 3, 29), (29, .invokevirtual 125, 3, 32), (32, .aload_n 0, 1, 33), (33, .getfield 12, 3, 36), (36, .iload_n 1, 1, 37), (37, .iconst 1, 1, 38), (38, .invokevirtual 108, 3, 41), (41, .iadd, 1, 42), (42, .bipush 90, 2, 44), (44, .if_icmp .le 6, 3, 47), (47, .bipush (-2), 2, 49), (49, .ireturn, 1, 50), (50, .aload_n 0, 1, 51), (51, .invokevirtual 97, 3, 54), (54, .aload_n 0, 1, 55), (55, .getfield 12, 3, 58), (58, .iload_n 1, 1, 59), (59, .invokevirtual 128, 3, 62), (62, .aload_n 0, 1, 63), (63, .getfield 12, 3, 66), (66, .getfield 122, 3, 69), (69, .ireturn, 1, 70)]
theorem jd_Top_again : qm_D prog_1_method_9_code jl_Top_again := qm_D_of (by decide +kernel)
noncomputable def jf_Top_again (this : Nat) (p1 : Int32) : qm_M Int32 :=
  mB (jf_Run_has (qm_rf this 0) p1) fun x1 =>
  if ¬ x1 = 0 then
    mB (mGt (qm_rf this 0) 0) fun x2 =>
    if 16 ≤ x2 then
      mP (-2)
    else
      mB (jf_Run_allPieces (qm_rf this 0)) fun x3 =>
      mB (jf_Run_cell (qm_rf this 0) p1 1) fun x4 =>
      if (x3 + x4) ≤ 90 then
        mB (jf_Top_beginAct this) fun _ =>
        mB (jf_Run_repeat (qm_rf this 0) p1) fun _ =>
        mB (mGt (qm_rf this 0) 0) fun x5 =>
        mP x5
      else
        mP (-2)
  else
    mP (-1)
set_option maxRecDepth 20000 in
set_option maxHeartbeats 4000000 in
theorem jb_Top_again {X : qm_X} (hX : qm_ok X qr_Top prog_1_method_9_code 2 3 68 jl_Top_again) {r0 : Int32} {σ0 : qm_Mem} (hR : qm_RI X r0 σ0 .int) (this : Nat) (p1 : Int32) (hthis : (qm_kd this).1 = 18) : qm_B X (jf_Top_again this p1) 0 [some (.ref (qx_ad X this)), some (.int p1)] [] (fun r σ1 => r = r0 ∧ σ1 = σ0) := by
  unfold jf_Top_again
  refine qb_aload_n hX 0 rfl rfl ?_
  refine qb_getR hX 1 rfl fl_Top_12 hthis rfl ?_
  refine qb_iload_n hX 2 rfl rfl ?_
  refine qb_callI hX 3 rfl cv_Top_116 (jm_Run_has (qk_GI hX) (qm_rf this 0) p1 (kf_Top_0 hthis) ) (ci := 4) (kf_Top_0 hthis) ⟨rfl, rfl, rfl, by decide, by decide⟩ rfl (by exact Nat.le_of_ble_eq_true rfl) (fun x1 => ?_)
  refine qb_ifne hX 4 13 rfl (by decide) ?_ ?_
  ·
    refine qb_aload_n hX 7 rfl rfl ?_
    refine qb_getR hX 8 rfl fl_Top_12 hthis rfl ?_
    refine qb_get hX 9 rfl fl_Top_122 (kf_Top_0 hthis) rfl (fun x2 => ?_)
    refine qb_bipush hX 10 16 rfl (by decide) ?_
    refine qb_icge hX 11 47 rfl (by decide) ?_ ?_
    ·
      refine qb_bipush hX 23 (-2) rfl (by decide) ?_
      exact qb_iret hX 24 rfl hR (fun _ h => h)
    ·
      refine qb_aload_n hX 12 rfl rfl ?_
      refine qb_getR hX 13 rfl fl_Top_12 hthis rfl ?_
      refine qb_callI hX 14 rfl cv_Top_125 (jm_Run_allPieces (qk_GI hX) (qm_rf this 0)  (kf_Top_0 hthis) ) (ci := 4) (kf_Top_0 hthis) ⟨rfl, rfl, rfl, by decide, by decide⟩ rfl (by exact Nat.le_of_ble_eq_true rfl) (fun x3 => ?_)
      refine qb_aload_n hX 15 rfl rfl ?_
      refine qb_getR hX 16 rfl fl_Top_12 hthis rfl ?_
      refine qb_iload_n hX 17 rfl rfl ?_
      refine qb_iconst hX 18 1 rfl (by decide) ?_
      refine qb_callI hX 19 rfl cv_Top_108 (jm_Run_cell (qk_GI hX) (qm_rf this 0) p1 1 (kf_Top_0 hthis) ) (ci := 4) (kf_Top_0 hthis) ⟨rfl, rfl, rfl, by decide, by decide⟩ rfl (by exact Nat.le_of_ble_eq_true rfl) (fun x4 => ?_)
      refine qb_iadd hX 20 rfl ?_
      refine qb_bipush hX 21 90 rfl (by decide) ?_
      refine qb_icle hX 22 50 rfl (by decide) ?_ ?_
      ·
        refine qb_aload_n hX 25 rfl rfl ?_
        refine qb_callV hX 26 rfl cv_Top_97 (jm_Top_beginAct (qk_GI hX) this  hthis ) (ci := 8) hthis ⟨rfl, rfl, rfl, by decide, by decide⟩ rfl (by exact Nat.le_of_ble_eq_true rfl) ?_
        refine qb_aload_n hX 27 rfl rfl ?_
        refine qb_getR hX 28 rfl fl_Top_12 hthis rfl ?_
        refine qb_iload_n hX 29 rfl rfl ?_
        refine qb_callV hX 30 rfl cv_Top_128 (jm_Run_repeat (qk_GI hX) (qm_rf this 0) p1 (kf_Top_0 hthis) ) (ci := 4) (kf_Top_0 hthis) ⟨rfl, rfl, rfl, by decide, by decide⟩ rfl (by exact Nat.le_of_ble_eq_true rfl) ?_
        refine qb_aload_n hX 31 rfl rfl ?_
        refine qb_getR hX 32 rfl fl_Top_12 hthis rfl ?_
        refine qb_get hX 33 rfl fl_Top_122 (kf_Top_0 hthis) rfl (fun x5 => ?_)
        exact qb_iret hX 34 rfl hR (fun _ h => h)
      ·
        refine qb_bipush hX 23 (-2) rfl (by decide) ?_
        exact qb_iret hX 24 rfl hR (fun _ h => h)
  ·
    refine qb_iconst hX 5 (-1) rfl (by decide) ?_
    exact qb_iret hX 6 rfl hR (fun _ h => h)
theorem jm_Top_again {l : Launch} {G : qm_G} (hG : qm_GI G) (this : Nat) (p1 : Int32) (hthis : (qm_kd this).1 = 18) : qm_MI l G jy_Top_again prog_1_method_9_code 2 (some .int) 3 68 [.ref (G.1 this), .int p1] (jf_Top_again this p1) :=
  qm_metI (by decide +kernel) jd_Top_again (fun v hv => by simp only [List.mem_cons, List.not_mem_nil, or_false] at hv; rcases hv with rfl | rfl <;> rfl) (by exact Nat.le_of_ble_eq_true rfl) hG rfl (fun X hl hg hX r0 σ0 hR => by subst hl; subst hg; exact jb_Top_again hX hR this p1 hthis)
def jl_Top_drop : List qm_I := [(0, .aload_n 0, 1, 1), (1, .getfield 12, 3, 4), (4, .iload_n 1, 1, 5), (5, .invokevirtual 116, 3, 8), (8, .ifCond .ne 5, 3, 11), (11, .iconst (-1), 1, 12), (12, .ireturn, 1, 13), (13, .aload_n 0, 1, 14), (14, .invokevirtual 97, 3, 17), (17, .aload_n 0, 1, 18), (18, .getfield 12, 3, 21), (21, .iload_n 1, 1, 22), (22, .invokevirtual 131, 3, 25), (25, .aload_n 0, 1, 26), (26, .getfield 12, 3, 29), (29, .getfield 122, 3, 32), (32, .ireturn, 1, 33)]
theorem jd_Top_drop : qm_D prog_1_method_10_code jl_Top_drop := qm_D_of (by decide +kernel)
noncomputable def jf_Top_drop (this : Nat) (p1 : Int32) : qm_M Int32 :=
  mB (jf_Run_has (qm_rf this 0) p1) fun x1 =>
  if ¬ x1 = 0 then
    mB (jf_Top_beginAct this) fun _ =>
    mB (jf_Run_remove (qm_rf this 0) p1) fun _ =>
    mB (mGt (qm_rf this 0) 0) fun x2 =>
    mP x2
  else
    mP (-1)
set_option maxRecDepth 20000 in
set_option maxHeartbeats 4000000 in
theorem jb_Top_drop {X : qm_X} (hX : qm_ok X qr_Top prog_1_method_10_code 2 3 68 jl_Top_drop) {r0 : Int32} {σ0 : qm_Mem} (hR : qm_RI X r0 σ0 .int) (this : Nat) (p1 : Int32) (hthis : (qm_kd this).1 = 18) : qm_B X (jf_Top_drop this p1) 0 [some (.ref (qx_ad X this)), some (.int p1)] [] (fun r σ1 => r = r0 ∧ σ1 = σ0) := by
  unfold jf_Top_drop
  refine qb_aload_n hX 0 rfl rfl ?_
  refine qb_getR hX 1 rfl fl_Top_12 hthis rfl ?_
  refine qb_iload_n hX 2 rfl rfl ?_
  refine qb_callI hX 3 rfl cv_Top_116 (jm_Run_has (qk_GI hX) (qm_rf this 0) p1 (kf_Top_0 hthis) ) (ci := 4) (kf_Top_0 hthis) ⟨rfl, rfl, rfl, by decide, by decide⟩ rfl (by exact Nat.le_of_ble_eq_true rfl) (fun x1 => ?_)
  refine qb_ifne hX 4 13 rfl (by decide) ?_ ?_
  ·
    refine qb_aload_n hX 7 rfl rfl ?_
    refine qb_callV hX 8 rfl cv_Top_97 (jm_Top_beginAct (qk_GI hX) this  hthis ) (ci := 8) hthis ⟨rfl, rfl, rfl, by decide, by decide⟩ rfl (by exact Nat.le_of_ble_eq_true rfl) ?_
    refine qb_aload_n hX 9 rfl rfl ?_
    refine qb_getR hX 10 rfl fl_Top_12 hthis rfl ?_
    refine qb_iload_n hX 11 rfl rfl ?_
    refine qb_callV hX 12 rfl cv_Top_131 (jm_Run_remove (qk_GI hX) (qm_rf this 0) p1 (kf_Top_0 hthis) ) (ci := 4) (kf_Top_0 hthis) ⟨rfl, rfl, rfl, by decide, by decide⟩ rfl (by exact Nat.le_of_ble_eq_true rfl) ?_
    refine qb_aload_n hX 13 rfl rfl ?_
    refine qb_getR hX 14 rfl fl_Top_12 hthis rfl ?_
    refine qb_get hX 15 rfl fl_Top_122 (kf_Top_0 hthis) rfl (fun x2 => ?_)
    exact qb_iret hX 16 rfl hR (fun _ h => h)
  ·
    refine qb_iconst hX 5 (-1) rfl (by decide) ?_
    exact qb_iret hX 6 rfl hR (fun _ h => h)
theorem jm_Top_drop {l : Launch} {G : qm_G} (hG : qm_GI G) (this : Nat) (p1 : Int32) (hthis : (qm_kd this).1 = 18) : qm_MI l G jy_Top_drop prog_1_method_10_code 2 (some .int) 3 68 [.ref (G.1 this), .int p1] (jf_Top_drop this p1) :=
  qm_metI (by decide +kernel) jd_Top_drop (fun v hv => by simp only [List.mem_cons, List.not_mem_nil, or_false] at hv; rcases hv with rfl | rfl <;> rfl) (by exact Nat.le_of_ble_eq_true rfl) hG rfl (fun X hl hg hX r0 σ0 hR => by subst hl; subst hg; exact jb_Top_drop hX hR this p1 hthis)
def jl_Top_undo : List qm_I := [(0, .aload_n 0, 1, 1), (1, .getfield 35, 3, 4), (4, .getfield 83, 3, 7), (7, .ifCond .ne 5, 3, 10), (10, .iconst (-1), 1, 11), (11, .ireturn, 1, 12), (12, .aload_n 0, 1, 13), (13, .getfield 35, 3, 16), (16, .aload_n 0, 1, 17), (17, .getfield 12, 3, 20), (20, .invokevirtual 134, 3, 23), (23, .aload_n 0, 1, 24), (24, .invokevirtual 86, 3, 27), (27, .aload_n 0, 1, 28), (28, .getfield 35, 3, 31), (31, .getfield 83, 3, 34), (34, .ireturn, 1, 35)]
theorem jd_Top_undo : qm_D prog_1_method_11_code jl_Top_undo := qm_D_of (by decide +kernel)
noncomputable def jf_Top_undo (this : Nat) : qm_M Int32 :=
  mB (mGt (qm_rf this 3) 2) fun x1 =>
  if ¬ x1 = 0 then
    mB (jf_Past_pop (qm_rf this 3) (qm_rf this 0)) fun _ =>
    mB (jf_Top_changed this) fun _ =>
    mB (mGt (qm_rf this 3) 2) fun x2 =>
    mP x2
  else
    mP (-1)
set_option maxRecDepth 20000 in
set_option maxHeartbeats 4000000 in
theorem jb_Top_undo {X : qm_X} (hX : qm_ok X qr_Top prog_1_method_11_code 1 2 43 jl_Top_undo) {r0 : Int32} {σ0 : qm_Mem} (hR : qm_RI X r0 σ0 .int) (this : Nat) (hthis : (qm_kd this).1 = 18) : qm_B X (jf_Top_undo this) 0 [some (.ref (qx_ad X this))] [] (fun r σ1 => r = r0 ∧ σ1 = σ0) := by
  unfold jf_Top_undo
  refine qb_aload_n hX 0 rfl rfl ?_
  refine qb_getR hX 1 rfl fl_Top_35 hthis rfl ?_
  refine qb_get hX 2 rfl fl_Top_83 (kf_Top_3 hthis) rfl (fun x1 => ?_)
  refine qb_ifne hX 3 12 rfl (by decide) ?_ ?_
  ·
    refine qb_aload_n hX 6 rfl rfl ?_
    refine qb_getR hX 7 rfl fl_Top_35 hthis rfl ?_
    refine qb_aload_n hX 8 rfl rfl ?_
    refine qb_getR hX 9 rfl fl_Top_12 hthis rfl ?_
    refine qb_callV hX 10 rfl cv_Top_134 (jm_Past_pop (qk_GI hX) (qm_rf this 3) (qm_rf this 0) (kf_Top_3 hthis) (kf_Top_0 hthis)) (ci := 2) (kf_Top_3 hthis) ⟨rfl, rfl, rfl, by decide, by decide⟩ rfl (by exact Nat.le_of_ble_eq_true rfl) ?_
    refine qb_aload_n hX 11 rfl rfl ?_
    refine qb_callV hX 12 rfl cv_Top_86 (jm_Top_changed (qk_GI hX) this  hthis ) (ci := 8) hthis ⟨rfl, rfl, rfl, by decide, by decide⟩ rfl (by exact Nat.le_of_ble_eq_true rfl) ?_
    refine qb_aload_n hX 13 rfl rfl ?_
    refine qb_getR hX 14 rfl fl_Top_35 hthis rfl ?_
    refine qb_get hX 15 rfl fl_Top_83 (kf_Top_3 hthis) rfl (fun x2 => ?_)
    exact qb_iret hX 16 rfl hR (fun _ h => h)
  ·
    refine qb_iconst hX 4 (-1) rfl (by decide) ?_
    exact qb_iret hX 5 rfl hR (fun _ h => h)
theorem jm_Top_undo {l : Launch} {G : qm_G} (hG : qm_GI G) (this : Nat) (hthis : (qm_kd this).1 = 18) : qm_MI l G jy_Top_undo prog_1_method_11_code 1 (some .int) 2 43 [.ref (G.1 this)] (jf_Top_undo this) :=
  qm_metI (by decide +kernel) jd_Top_undo (fun v hv => by simp only [List.mem_cons, List.not_mem_nil, or_false] at hv; rcases hv with rfl <;> rfl) (by exact Nat.le_of_ble_eq_true rfl) hG rfl (fun X hl hg hX r0 σ0 hR => by subst hl; subst hg; exact jb_Top_undo hX hR this hthis)
