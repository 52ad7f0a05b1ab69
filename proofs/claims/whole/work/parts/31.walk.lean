def jl_Model_columnsOf : List qm_I := [(0, .aload_n 0, 1, 1), (1, .getfield 38, 3, 4), (4, .iload_n 1, 1, 5), (5, .iaload, 1, 6), (6, .aload_n 0, 1, 7), (7, .iload_n 1, 1, 8), (8, .iload_n 2, 1, 9), (9, .invokevirtual 265, 3, 12), (12, .isub, 1, 13), (13, .istore_n 3, 1, 14), (14, .iconst 1, 1, 15), (15, .istore 4, 2, 17), (17, .iload_n 2, 1, 18), (18, .iconst 1, 1, 19), (19, .iadd, 1, 20), (20, .istore 5, 2, 22), (22, .iload 5, 2, 24), (24, .aload_n 0, 1, 25), (25, .getfield 198, 3, 28), (28, .if_icmp .ge 55, 3, 31), (31, .iload_n 3, 1, 32), (32, .ifCond .le 51, 3, 35), (35, .iload_n 3, 1, 36), (36, .aload_n 0, 1, 37), (37, .iload 5, 2, 39), (39, .invokevirtual 257, 3, 42), (42, .if_icmp .ge 7, 3, 45), (45, .iload_n 3, 1, 46), (46, .goto 9, 3, 49), (49, .aload_n 0, 1, 50), (50, .iload 5, 2, 52), (52, .invokevirtual 257, 3, 55), (55, .istore 6, 2, 57), (57, .iload 4, 2, 59), (59, .iload 6, 2, 61), (61, .ifCond .le 7, 3, 64), (64, .iconst 1, 1, 65), (65, .goto 4, 3, 68), (68, .iconst 0, 1, 69), (69, .iadd, 1, 70), (70, .istore 4, 2, 72), (72, .iload_n 3, 1, 73), (73, .iload 6, 2, 75), (75, .isub, 1, 76), (76, .istore_n 3, 1, 77), (77, .iinc 5 1, 3, 80), (80, .goto (-58), 3, 83), (83, .iload 4, 2, 85), (85, .ireturn, 1, 86)]
theorem jd_Model_columnsOf : qm_D prog_11_method_44_code jl_Model_columnsOf := qm_D_of (by decide +kernel)
noncomputable def jf_Model_columnsOf (this : Nat) (p1 : Int32) (p2 : Int32) : qm_M Int32 :=
  mB (mLd (qm_rf this 10) p1) fun x1 =>
  mB (jf_Model_linesAt this p1 p2) fun x2 =>
  mB (mP (x1 - x2)) fun x3 =>
  mB (mP (p2 + 1)) fun x4 =>
  mB (α := Int32) (
    mW (S := Int32 × Int32 × Int32) (α := Int32) (fun s6 =>
      mB (mGt this 32) fun x7 =>
      if x7 ≤ s6.2.2 then
        mP (Sum.inr s6.2.1)
      else
        if s6.1 ≤ 0 then
          mP (Sum.inr s6.2.1)
        else
          mB (jf_Model_linesIn this s6.2.2) fun x8 =>
          mB (α := Int32) (
            if x8 ≤ s6.1 then
              mB (jf_Model_linesIn this s6.2.2) fun x10 =>
              mP x10
            else
              mP s6.1) fun s9 =>
          mB (α := Int32) (
            if s9 ≤ 0 then
              mP 0
            else
              mP 1) fun s11 =>
          mB (mP (s6.2.1 + s11)) fun x12 =>
          mB (mP (s6.1 - s9)) fun x13 =>
          mB (mP (s6.2.2 + 1)) fun x14 =>
          mP (Sum.inl (x13, x12, x14))) (x3, 1, x4)) fun s5 =>
  mP s5
set_option maxRecDepth 20000 in
set_option maxHeartbeats 4000000 in
theorem jb_Model_columnsOf {X : qm_X} (hX : qm_ok X qr_Model prog_11_method_44_code 7 6 139 jl_Model_columnsOf) {r0 : Int32} {σ0 : qm_Mem} (hR : qm_RI X r0 σ0 .int) (this : Nat) (p1 : Int32) (p2 : Int32) (hthis : (qm_kd this).1 = 19) : qm_B X (jf_Model_columnsOf this p1 p2) 0 [some (.ref (qx_ad X this)), some (.int p1), some (.int p2), none, none, none, none] [] (fun r σ1 => r = r0 ∧ σ1 = σ0) := by
  unfold jf_Model_columnsOf
  refine qb_aload_n hX 0 rfl rfl ?_
  refine qb_getR hX 1 rfl fl_Model_38 hthis rfl ?_
  refine qb_iload_n hX 2 rfl rfl ?_
  refine qb_iald hX 3 rfl (kf_Model_10 hthis) (fun x1 => ?_)
  refine qb_aload_n hX 4 rfl rfl ?_
  refine qb_iload_n hX 5 rfl rfl ?_
  refine qb_iload_n hX 6 rfl rfl ?_
  refine qb_callI hX 7 rfl cv_Model_265 (jm_Model_linesAt (qk_GI hX) this p1 p2 hthis ) (ci := 9) hthis ⟨rfl, rfl, rfl, by decide, by decide⟩ rfl (by exact Nat.le_of_ble_eq_true rfl) (fun x2 => ?_)
  refine qb_isub hX 8 rfl ?_
  refine qb_istore_nL hX 9 (fun x3 => [some (.ref (qx_ad X this)), some (.int p1), some (.int p2), some (.int x3), none, none, none]) rfl (by decide) (fun _ => rfl) (fun x3 => ?_)
  refine qb_iconst hX 10 1 rfl (by decide) ?_
  refine qb_istore hX 11 ([some (.ref (qx_ad X this)), some (.int p1), some (.int p2), some (.int x3), some (.int 1), none, none]) rfl (by decide) rfl ?_
  refine qb_iload_n hX 12 rfl rfl ?_
  refine qb_iconst hX 13 1 rfl (by decide) ?_
  refine qb_iadd hX 14 rfl ?_
  refine qb_istoreL hX 15 (fun x4 => [some (.ref (qx_ad X this)), some (.int p1), some (.int p2), some (.int x3), some (.int 1), some (.int x4), none]) rfl (by decide) (fun _ => rfl) (fun x4 => ?_)
  refine qb_join 83 (fun s5 => [none, none, none, none, some (.int s5), none, none]) (fun s5 => []) ?_ ?_
  ·
    refine qb_loopw ((x3, 1, x4)) (fun s6 => [some (.ref (qx_ad X this)), none, none, some (.int s6.1), some (.int s6.2.1), some (.int s6.2.2), none]) (qw_s (qw_n (qw_n (qw_s (qw_s (qw_s (qw_n (qw_0)))))))) (fun s6 => ?_)
    refine qb_iload hX 16 rfl rfl ?_
    refine qb_aload_n hX 17 rfl rfl ?_
    refine qb_get hX 18 rfl fl_Model_198 hthis rfl (fun x7 => ?_)
    refine qb_icge hX 19 83 rfl (by decide) ?_ ?_
    ·
      exact qb_exit (fun σ h => qj_wk (ρ' := [none, none, none, none, some (.int s6.2.1), none, none]) (qw_n (qw_n (qw_n (qw_n (qw_s (qw_n (qw_n (qw_0)))))))) h)
    ·
      refine qb_iload_n hX 20 rfl rfl ?_
      refine qb_ifle hX 21 83 rfl (by decide) ?_ ?_
      ·
        exact qb_exit (fun σ h => qj_wk (ρ' := [none, none, none, none, some (.int s6.2.1), none, none]) (qw_n (qw_n (qw_n (qw_n (qw_s (qw_n (qw_n (qw_0)))))))) h)
      ·
        refine qb_iload_n hX 22 rfl rfl ?_
        refine qb_aload_n hX 23 rfl rfl ?_
        refine qb_iload hX 24 rfl rfl ?_
        refine qb_callI hX 25 rfl cv_Model_257 (jm_Model_linesIn (qk_GI hX) this s6.2.2 hthis ) (ci := 9) hthis ⟨rfl, rfl, rfl, by decide, by decide⟩ rfl (by exact Nat.le_of_ble_eq_true rfl) (fun x8 => ?_)
        refine qb_join 55 (fun s9 => [some (.ref (qx_ad X this)), none, none, some (.int s6.1), some (.int s6.2.1), some (.int s6.2.2), none]) (fun s9 => [.int s9]) ?_ ?_
        ·
          refine qb_icge hX 26 49 rfl (by decide) ?_ ?_
          ·
            refine qb_aload_n hX 29 rfl rfl ?_
            refine qb_iload hX 30 rfl rfl ?_
            refine qb_callI hX 31 rfl cv_Model_257 (jm_Model_linesIn (qk_GI hX) this s6.2.2 hthis ) (ci := 9) hthis ⟨rfl, rfl, rfl, by decide, by decide⟩ rfl (by exact Nat.le_of_ble_eq_true rfl) (fun x10 => ?_)
            exact qb_exit (fun σ h => qj_wk (ρ' := [some (.ref (qx_ad X this)), none, none, some (.int s6.1), some (.int s6.2.1), some (.int s6.2.2), none]) (qw_s (qw_n (qw_n (qw_s (qw_s (qw_s (qw_n (qw_0)))))))) h)
          ·
            refine qb_iload_n hX 27 rfl rfl ?_
            exact qb_exit (fun σ h => qj_goto hX 28 rfl (by decide) (qj_wk (ρ' := [some (.ref (qx_ad X this)), none, none, some (.int s6.1), some (.int s6.2.1), some (.int s6.2.2), none]) (qw_s (qw_n (qw_n (qw_s (qw_s (qw_s (qw_n (qw_0)))))))) h))
        · intro s9
          refine qb_istore hX 32 ([some (.ref (qx_ad X this)), none, none, some (.int s6.1), some (.int s6.2.1), some (.int s6.2.2), some (.int s9)]) rfl (by decide) rfl ?_
          refine qb_iload hX 33 rfl rfl ?_
          refine qb_iload hX 34 rfl rfl ?_
          refine qb_join 69 (fun s11 => [some (.ref (qx_ad X this)), none, none, some (.int s6.1), none, some (.int s6.2.2), some (.int s9)]) (fun s11 => [.int s11, .int s6.2.1]) ?_ ?_
          ·
            refine qb_ifle hX 35 68 rfl (by decide) ?_ ?_
            ·
              refine qb_iconst hX 38 0 rfl (by decide) ?_
              exact qb_exit (fun σ h => qj_wk (ρ' := [some (.ref (qx_ad X this)), none, none, some (.int s6.1), none, some (.int s6.2.2), some (.int s9)]) (qw_s (qw_n (qw_n (qw_s (qw_n (qw_s (qw_s (qw_0)))))))) h)
            ·
              refine qb_iconst hX 36 1 rfl (by decide) ?_
              exact qb_exit (fun σ h => qj_goto hX 37 rfl (by decide) (qj_wk (ρ' := [some (.ref (qx_ad X this)), none, none, some (.int s6.1), none, some (.int s6.2.2), some (.int s9)]) (qw_s (qw_n (qw_n (qw_s (qw_n (qw_s (qw_s (qw_0)))))))) h))
          · intro s11
            refine qb_iadd hX 39 rfl ?_
            refine qb_istoreL hX 40 (fun x12 => [some (.ref (qx_ad X this)), none, none, some (.int s6.1), some (.int x12), some (.int s6.2.2), some (.int s9)]) rfl (by decide) (fun _ => rfl) (fun x12 => ?_)
            refine qb_iload_n hX 41 rfl rfl ?_
            refine qb_iload hX 42 rfl rfl ?_
            refine qb_isub hX 43 rfl ?_
            refine qb_istore_nL hX 44 (fun x13 => [some (.ref (qx_ad X this)), none, none, some (.int x13), some (.int x12), some (.int s6.2.2), some (.int s9)]) rfl (by decide) (fun _ => rfl) (fun x13 => ?_)
            refine qb_iinc hX 45 1 (fun x14 => [some (.ref (qx_ad X this)), none, none, some (.int x13), some (.int x12), some (.int x14), some (.int s9)]) rfl (by decide) (by decide) rfl (fun _ => rfl) (fun x14 => ?_)
            exact qb_exit (fun σ h => qj_goto hX 46 rfl (by decide) (qj_wk (ρ' := [some (.ref (qx_ad X this)), none, none, some (.int x13), some (.int x12), some (.int x14), none]) (qw_s (qw_n (qw_n (qw_s (qw_s (qw_s (qw_n (qw_0)))))))) h))
  · intro s5
    refine qb_iload hX 47 rfl rfl ?_
    exact qb_iret hX 48 rfl hR (fun _ h => h)
theorem jm_Model_columnsOf {l : Launch} {G : qm_G} (hG : qm_GI G) (this : Nat) (p1 : Int32) (p2 : Int32) (hthis : (qm_kd this).1 = 19) : qm_MI l G jy_Model_columnsOf prog_11_method_44_code 7 (some .int) 6 139 [.ref (G.1 this), .int p1, .int p2] (jf_Model_columnsOf this p1 p2) :=
  qm_metI (by decide +kernel) jd_Model_columnsOf (fun v hv => by simp only [List.mem_cons, List.not_mem_nil, or_false] at hv; rcases hv with rfl | rfl | rfl <;> rfl) (by exact Nat.le_of_ble_eq_true rfl) hG rfl (fun X hl hg hX r0 σ0 hR => by subst hl; subst hg; exact jb_Model_columnsOf hX hR this p1 p2 hthis)
def jl_Model_note : List qm_I := [(0, .aload_n 0, 1, 1), (1, .invokevirtual 254, 3, 4), (4, .istore_n 3, 1, 5), (5, .iload_n 1, 1, 6), (6, .iconst (-1), 1, 7), (7, .if_icmp .ne 12, 3, 10), (10, .iload_n 2, 1, 11), (11, .ifCond .ne 8, 3, 14), (14, .aload_n 0, 1, 15), (15, .invokevirtual 268, 3, 18), (18, .ireturn, 1, 19), (19, .iload_n 1, 1, 20), (20, .i2l, 1, 21), (21, .lconst 0, 1, 22), (22, .aload_n 0, 1, 23), (23, .invokevirtual 268, 3, 26), (26, .iconst 1, 1, 27), (27, .isub, 1, 28), (28, .i2l, 1, 29), (29, .invokestatic 129, 3, 32), (32, .ifCond .eq 15, 3, 35), (35, .iload_n 2, 1, 36), (36, .i2l, 1, 37), (37, .lconst 0, 1, 38), (38, .ldc2_w 271, 3, 41), (41, .invokestatic 129, 3, 44), (44, .ifCond .ne 5, 3, 47), (47, .iconst (-1), 1, 48), (48, .ireturn, 1, 49), (49, .aload_n 0, 1, 50), (50, .iload_n 1, 1, 51), (51, .invokevirtual 273, 3, 54), (54, .istore 4, 2, 56), (56, .iload_n 2, 1, 57), (57, .iconst 2, 1, 58), (58, .if_icmp .ge 20, 3, 61), (61, .iload_n 2, 1, 62), (62, .ifCond .ne 8, 3, 65), (65, .iload 4, 2, 67), (67, .goto 10, 3, 70), (70, .aload_n 0, 1, 71), (71, .getfield 38, 3, 74), (74, .iload 4, 2, 76), (76, .iaload, 1, 77), (77, .ireturn, 1, 78), (78, .aload_n 0, 1, 79), (79, .iload 4, 2, 81), (81, .invokevirtual 262, 3, 84), (84, .istore 5, 2, 86), (86, .iload 5, 2, 88), (88, .iconst (-1), 1, 89), (89, .if_icmp .ne 6, 3, 92), (92, .bipush (-2), 2, 94), (94, .ireturn, 1, 95), (95, .iload_n 2, 1, 96), (96, .iconst 2, 1, 97), (97, .if_icmp .ne 14, 3, 100), (100, .aload_n 0, 1, 101), (101, .iload 4, 2, 103), (103, .iload 5, 2, 105), (105, .invokevirtual 265, 3, 108), (108, .goto 11, 3, 111), (111, .aload_n 0, 1, 112), (112, .iload 4, 2, 114), (114, .iload 5, 2, 116), (116, .invokevirtual 276, 3, 119), (119, .ireturn, 1, 120)]
theorem jd_Model_note : qm_D prog_11_method_45_code jl_Model_note := qm_D_of (by decide +kernel)
noncomputable def jf_Model_note (this : Nat) (p1 : Int32) (p2 : Int32) : qm_M Int32 :=
  mB (jf_Model_pours this) fun x1 =>
  mB (α := (Unit ⊕ Int32)) (
    if ¬ p1 = (-1) then
      mP (Sum.inl ())
    else
      if ¬ p2 = 0 then
        mP (Sum.inl ())
      else
        mB (jf_Model_notes this) fun x3 =>
        mP (Sum.inr x3)) (Sum.elim (fun s2 =>
    mB (jf_Model_notes this) fun x4 =>
    mB (jf_Model_in (Int32.toInt64 p1) (0 : Int64) (Int32.toInt64 (x4 - 1))) fun x5 =>
    if x5 = 0 then
      mP (-1)
    else
      mB (jf_Model_in (Int32.toInt64 p2) (0 : Int64) (3 : Int64)) fun x6 =>
      if ¬ x6 = 0 then
        mB (jf_Model_noteAt this p1) fun x7 =>
        if 2 ≤ p2 then
          mB (jf_Model_columnOf this x7) fun x8 =>
          if ¬ x8 = (-1) then
            if ¬ p2 = 2 then
              mB (jf_Model_columnsOf this x7 x8) fun x9 =>
              mP x9
            else
              mB (jf_Model_linesAt this x7 x8) fun x10 =>
              mP x10
          else
            mP (-2)
        else
          if ¬ p2 = 0 then
            mB (mLd (qm_rf this 10) x7) fun x11 =>
            mP x11
          else
            mP x7
      else
        mP (-1)) mP)
set_option maxRecDepth 20000 in
set_option maxHeartbeats 4000000 in
theorem jb_Model_note {X : qm_X} (hX : qm_ok X qr_Model prog_11_method_45_code 6 10 248 jl_Model_note) {r0 : Int32} {σ0 : qm_Mem} (hR : qm_RI X r0 σ0 .int) (this : Nat) (p1 : Int32) (p2 : Int32) (hthis : (qm_kd this).1 = 19) : qm_B X (jf_Model_note this p1 p2) 0 [some (.ref (qx_ad X this)), some (.int p1), some (.int p2), none, none, none] [] (fun r σ1 => r = r0 ∧ σ1 = σ0) := by
  unfold jf_Model_note
  refine qb_aload_n hX 0 rfl rfl ?_
  refine qb_callI hX 1 rfl cv_Model_254 (jm_Model_pours (qk_GI hX) this  hthis ) (ci := 9) hthis ⟨rfl, rfl, rfl, by decide, by decide⟩ rfl (by exact Nat.le_of_ble_eq_true rfl) (fun x1 => ?_)
  refine qb_istore_n hX 2 ([some (.ref (qx_ad X this)), some (.int p1), some (.int p2), some (.int x1), none, none]) rfl (by decide) rfl ?_
  refine qb_iload_n hX 3 rfl rfl ?_
  refine qb_iconst hX 4 (-1) rfl (by decide) ?_
  refine qb_join2 19 (fun s2 => [some (.ref (qx_ad X this)), some (.int p1), some (.int p2), none, none, none]) (fun s2 => []) ?_ ?_
  ·
    refine qb_icne hX 5 19 rfl (by decide) ?_ ?_
    ·
      exact qb_exit (fun σ h => qj_wk (ρ' := [some (.ref (qx_ad X this)), some (.int p1), some (.int p2), none, none, none]) (qw_s (qw_s (qw_s (qw_n (qw_n (qw_n (qw_0))))))) h)
    ·
      refine qb_iload_n hX 6 rfl rfl ?_
      refine qb_ifne hX 7 19 rfl (by decide) ?_ ?_
      ·
        exact qb_exit (fun σ h => qj_wk (ρ' := [some (.ref (qx_ad X this)), some (.int p1), some (.int p2), none, none, none]) (qw_s (qw_s (qw_s (qw_n (qw_n (qw_n (qw_0))))))) h)
      ·
        refine qb_aload_n hX 8 rfl rfl ?_
        refine qb_callI hX 9 rfl cv_Model_268 (jm_Model_notes (qk_GI hX) this  hthis ) (ci := 9) hthis ⟨rfl, rfl, rfl, by decide, by decide⟩ rfl (by exact Nat.le_of_ble_eq_true rfl) (fun x3 => ?_)
        exact qb_iret hX 10 rfl hR (fun _ h => h)
  · intro s2
    refine qb_iload_n hX 11 rfl rfl ?_
    refine qb_i2l hX 12 rfl ?_
    refine qb_lconst hX 13 0 rfl (by decide) ?_
    refine qb_aload_n hX 14 rfl rfl ?_
    refine qb_callI hX 15 rfl cv_Model_268 (jm_Model_notes (qk_GI hX) this  hthis ) (ci := 9) hthis ⟨rfl, rfl, rfl, by decide, by decide⟩ rfl (by exact Nat.le_of_ble_eq_true rfl) (fun x4 => ?_)
    refine qb_iconst hX 16 1 rfl (by decide) ?_
    refine qb_isub hX 17 rfl ?_
    refine qb_i2l hX 18 rfl ?_
    refine qb_calSI hX 19 rfl cv_Model_129 (jm_Model_in (qk_GI hX) (Int32.toInt64 p1) (0 : Int64) (Int32.toInt64 (x4 - 1)) ) ⟨rfl, by decide, by decide⟩ rfl (by exact Nat.le_of_ble_eq_true rfl) (fun x5 => ?_)
    refine qb_ifeq hX 20 47 rfl (by decide) ?_ ?_
    ·
      refine qb_iconst hX 27 (-1) rfl (by decide) ?_
      exact qb_iret hX 28 rfl hR (fun _ h => h)
    ·
      refine qb_iload_n hX 21 rfl rfl ?_
      refine qb_i2l hX 22 rfl ?_
      refine qb_lconst hX 23 0 rfl (by decide) ?_
      refine qb_ldc2w hX 24 3 rfl kl_Model_271 ?_
      refine qb_calSI hX 25 rfl cv_Model_129 (jm_Model_in (qk_GI hX) (Int32.toInt64 p2) (0 : Int64) (3 : Int64) ) ⟨rfl, by decide, by decide⟩ rfl (by exact Nat.le_of_ble_eq_true rfl) (fun x6 => ?_)
      refine qb_ifne hX 26 49 rfl (by decide) ?_ ?_
      ·
        refine qb_aload_n hX 29 rfl rfl ?_
        refine qb_iload_n hX 30 rfl rfl ?_
        refine qb_callI hX 31 rfl cv_Model_273 (jm_Model_noteAt (qk_GI hX) this p1 hthis ) (ci := 9) hthis ⟨rfl, rfl, rfl, by decide, by decide⟩ rfl (by exact Nat.le_of_ble_eq_true rfl) (fun x7 => ?_)
        refine qb_istore hX 32 ([some (.ref (qx_ad X this)), some (.int p1), some (.int p2), none, some (.int x7), none]) rfl (by decide) rfl ?_
        refine qb_iload_n hX 33 rfl rfl ?_
        refine qb_iconst hX 34 2 rfl (by decide) ?_
        refine qb_icge hX 35 78 rfl (by decide) ?_ ?_
        ·
          refine qb_aload_n hX 45 rfl rfl ?_
          refine qb_iload hX 46 rfl rfl ?_
          refine qb_callI hX 47 rfl cv_Model_262 (jm_Model_columnOf (qk_GI hX) this x7 hthis ) (ci := 9) hthis ⟨rfl, rfl, rfl, by decide, by decide⟩ rfl (by exact Nat.le_of_ble_eq_true rfl) (fun x8 => ?_)
          refine qb_istore hX 48 ([some (.ref (qx_ad X this)), some (.int p1), some (.int p2), none, some (.int x7), some (.int x8)]) rfl (by decide) rfl ?_
          refine qb_iload hX 49 rfl rfl ?_
          refine qb_iconst hX 50 (-1) rfl (by decide) ?_
          refine qb_icne hX 51 95 rfl (by decide) ?_ ?_
          ·
            refine qb_iload_n hX 54 rfl rfl ?_
            refine qb_iconst hX 55 2 rfl (by decide) ?_
            refine qb_icne hX 56 111 rfl (by decide) ?_ ?_
            ·
              refine qb_aload_n hX 62 rfl rfl ?_
              refine qb_iload hX 63 rfl rfl ?_
              refine qb_iload hX 64 rfl rfl ?_
              refine qb_callI hX 65 rfl cv_Model_276 (jm_Model_columnsOf (qk_GI hX) this x7 x8 hthis ) (ci := 9) hthis ⟨rfl, rfl, rfl, by decide, by decide⟩ rfl (by exact Nat.le_of_ble_eq_true rfl) (fun x9 => ?_)
              exact qb_iret hX 66 rfl hR (fun _ h => h)
            ·
              refine qb_aload_n hX 57 rfl rfl ?_
              refine qb_iload hX 58 rfl rfl ?_
              refine qb_iload hX 59 rfl rfl ?_
              refine qb_callI hX 60 rfl cv_Model_265 (jm_Model_linesAt (qk_GI hX) this x7 x8 hthis ) (ci := 9) hthis ⟨rfl, rfl, rfl, by decide, by decide⟩ rfl (by exact Nat.le_of_ble_eq_true rfl) (fun x10 => ?_)
              refine qb_goto hX 61 (tgt := 119) rfl (by decide) ?_
              exact qb_iret hX 66 rfl hR (fun _ h => h)
          ·
            refine qb_bipush hX 52 (-2) rfl (by decide) ?_
            exact qb_iret hX 53 rfl hR (fun _ h => h)
        ·
          refine qb_iload_n hX 36 rfl rfl ?_
          refine qb_ifne hX 37 70 rfl (by decide) ?_ ?_
          ·
            refine qb_aload_n hX 40 rfl rfl ?_
            refine qb_getR hX 41 rfl fl_Model_38 hthis rfl ?_
            refine qb_iload hX 42 rfl rfl ?_
            refine qb_iald hX 43 rfl (kf_Model_10 hthis) (fun x11 => ?_)
            exact qb_iret hX 44 rfl hR (fun _ h => h)
          ·
            refine qb_iload hX 38 rfl rfl ?_
            refine qb_goto hX 39 (tgt := 77) rfl (by decide) ?_
            exact qb_iret hX 44 rfl hR (fun _ h => h)
      ·
        refine qb_iconst hX 27 (-1) rfl (by decide) ?_
        exact qb_iret hX 28 rfl hR (fun _ h => h)
theorem jm_Model_note {l : Launch} {G : qm_G} (hG : qm_GI G) (this : Nat) (p1 : Int32) (p2 : Int32) (hthis : (qm_kd this).1 = 19) : qm_MI l G jy_Model_note prog_11_method_45_code 6 (some .int) 10 248 [.ref (G.1 this), .int p1, .int p2] (jf_Model_note this p1 p2) :=
  qm_metI (by decide +kernel) jd_Model_note (fun v hv => by simp only [List.mem_cons, List.not_mem_nil, or_false] at hv; rcases hv with rfl | rfl | rfl <;> rfl) (by exact Nat.le_of_ble_eq_true rfl) hG rfl (fun X hl hg hX r0 σ0 hR => by subst hl; subst hg; exact jb_Model_note hX hR this p1 p2 hthis)
def jl_Model_span : List qm_I := [(0, .aload_n 0, 1, 1), (1, .invokevirtual 254, 3, 4), (4, .istore_n 3, 1, 5), (5, .iload_n 1, 1, 6), (6, .i2l, 1, 7), (7, .lconst 0, 1, 8), (8, .aload_n 0, 1, 9), (9, .getfield 155, 3, 12), (12, .iconst 2, 1, 13), (13, .isub, 1, 14), (14, .i2l, 1, 15), (15, .invokestatic 129, 3, 18), (18, .ifCond .eq 13, 3, 21), (21, .iload_n 2, 1, 22), (22, .i2l, 1, 23), (23, .lconst 0, 1, 24), (24, .lconst 1, 1, 25), (25, .invokestatic 129, 3, 28), (28, .ifCond .ne 5, 3, 31), (31, .iconst (-1), 1, 32), (32, .ireturn, 1, 33), (33, .aload_n 0, 1, 34), (34, .getfield 98, 3, 37), (37, .iload_n 1, 1, 38), (38, .iconst 1, 1, 39), (39, .iadd, 1, 40), (40, .iaload, 1, 41), (41, .iconst (-1), 1, 42), (42, .if_icmp .ne 6, 3, 45), (45, .bipush (-2), 2, 47), (47, .ireturn, 1, 48), (48, .iload_n 2, 1, 49), (49, .ifCond .ne 14, 3, 52), (52, .aload_n 0, 1, 53), (53, .getfield 98, 3, 56), (56, .iload_n 1, 1, 57), (57, .iconst 1, 1, 58), (58, .iadd, 1, 59), (59, .iaload, 1, 60), (60, .goto 11, 3, 63), (63, .aload_n 0, 1, 64), (64, .getfield 101, 3, 67), (67, .iload_n 1, 1, 68), (68, .iconst 1, 1, 69), (69, .iadd, 1, 70), (70, .iaload, 1, 71), (71, .ireturn, 1, 72)]
theorem jd_Model_span : qm_D prog_11_method_46_code jl_Model_span := qm_D_of (by decide +kernel)
noncomputable def jf_Model_span (this : Nat) (p1 : Int32) (p2 : Int32) : qm_M Int32 :=
  mB (jf_Model_pours this) fun x1 =>
  mB (mGt this 16) fun x2 =>
  mB (jf_Model_in (Int32.toInt64 p1) (0 : Int64) (Int32.toInt64 (x2 - 2))) fun x3 =>
  if x3 = 0 then
    mP (-1)
  else
    mB (jf_Model_in (Int32.toInt64 p2) (0 : Int64) (1 : Int64)) fun x4 =>
    if ¬ x4 = 0 then
      mB (mLd (qm_rf this 38) (p1 + 1)) fun x5 =>
      if ¬ x5 = (-1) then
        if ¬ p2 = 0 then
          mB (mLd (qm_rf this 39) (p1 + 1)) fun x6 =>
          mP x6
        else
          mB (mLd (qm_rf this 38) (p1 + 1)) fun x7 =>
          mP x7
      else
        mP (-2)
    else
      mP (-1)
set_option maxRecDepth 20000 in
set_option maxHeartbeats 4000000 in
theorem jb_Model_span {X : qm_X} (hX : qm_ok X qr_Model prog_11_method_46_code 4 10 248 jl_Model_span) {r0 : Int32} {σ0 : qm_Mem} (hR : qm_RI X r0 σ0 .int) (this : Nat) (p1 : Int32) (p2 : Int32) (hthis : (qm_kd this).1 = 19) : qm_B X (jf_Model_span this p1 p2) 0 [some (.ref (qx_ad X this)), some (.int p1), some (.int p2), none] [] (fun r σ1 => r = r0 ∧ σ1 = σ0) := by
  unfold jf_Model_span
  refine qb_aload_n hX 0 rfl rfl ?_
  refine qb_callI hX 1 rfl cv_Model_254 (jm_Model_pours (qk_GI hX) this  hthis ) (ci := 9) hthis ⟨rfl, rfl, rfl, by decide, by decide⟩ rfl (by exact Nat.le_of_ble_eq_true rfl) (fun x1 => ?_)
  refine qb_istore_n hX 2 ([some (.ref (qx_ad X this)), some (.int p1), some (.int p2), some (.int x1)]) rfl (by decide) rfl ?_
  refine qb_iload_n hX 3 rfl rfl ?_
  refine qb_i2l hX 4 rfl ?_
  refine qb_lconst hX 5 0 rfl (by decide) ?_
  refine qb_aload_n hX 6 rfl rfl ?_
  refine qb_get hX 7 rfl fl_Model_155 hthis rfl (fun x2 => ?_)
  refine qb_iconst hX 8 2 rfl (by decide) ?_
  refine qb_isub hX 9 rfl ?_
  refine qb_i2l hX 10 rfl ?_
  refine qb_calSI hX 11 rfl cv_Model_129 (jm_Model_in (qk_GI hX) (Int32.toInt64 p1) (0 : Int64) (Int32.toInt64 (x2 - 2)) ) ⟨rfl, by decide, by decide⟩ rfl (by exact Nat.le_of_ble_eq_true rfl) (fun x3 => ?_)
  refine qb_ifeq hX 12 31 rfl (by decide) ?_ ?_
  ·
    refine qb_iconst hX 19 (-1) rfl (by decide) ?_
    exact qb_iret hX 20 rfl hR (fun _ h => h)
  ·
    refine qb_iload_n hX 13 rfl rfl ?_
    refine qb_i2l hX 14 rfl ?_
    refine qb_lconst hX 15 0 rfl (by decide) ?_
    refine qb_lconst hX 16 1 rfl (by decide) ?_
    refine qb_calSI hX 17 rfl cv_Model_129 (jm_Model_in (qk_GI hX) (Int32.toInt64 p2) (0 : Int64) (1 : Int64) ) ⟨rfl, by decide, by decide⟩ rfl (by exact Nat.le_of_ble_eq_true rfl) (fun x4 => ?_)
    refine qb_ifne hX 18 33 rfl (by decide) ?_ ?_
    ·
      refine qb_aload_n hX 21 rfl rfl ?_
      refine qb_getR hX 22 rfl fl_Model_98 hthis rfl ?_
      refine qb_iload_n hX 23 rfl rfl ?_
      refine qb_iconst hX 24 1 rfl (by decide) ?_
      refine qb_iadd hX 25 rfl ?_
      refine qb_iald hX 26 rfl (kf_Model_38 hthis) (fun x5 => ?_)
      refine qb_iconst hX 27 (-1) rfl (by decide) ?_
      refine qb_icne hX 28 48 rfl (by decide) ?_ ?_
      ·
        refine qb_iload_n hX 31 rfl rfl ?_
        refine qb_ifne hX 32 63 rfl (by decide) ?_ ?_
        ·
          refine qb_aload_n hX 40 rfl rfl ?_
          refine qb_getR hX 41 rfl fl_Model_101 hthis rfl ?_
          refine qb_iload_n hX 42 rfl rfl ?_
          refine qb_iconst hX 43 1 rfl (by decide) ?_
          refine qb_iadd hX 44 rfl ?_
          refine qb_iald hX 45 rfl (kf_Model_39 hthis) (fun x6 => ?_)
          exact qb_iret hX 46 rfl hR (fun _ h => h)
        ·
          refine qb_aload_n hX 33 rfl rfl ?_
          refine qb_getR hX 34 rfl fl_Model_98 hthis rfl ?_
          refine qb_iload_n hX 35 rfl rfl ?_
          refine qb_iconst hX 36 1 rfl (by decide) ?_
          refine qb_iadd hX 37 rfl ?_
          refine qb_iald hX 38 rfl (kf_Model_38 hthis) (fun x7 => ?_)
          refine qb_goto hX 39 (tgt := 71) rfl (by decide) ?_
          exact qb_iret hX 46 rfl hR (fun _ h => h)
      ·
        refine qb_bipush hX 29 (-2) rfl (by decide) ?_
        exact qb_iret hX 30 rfl hR (fun _ h => h)
    ·
      refine qb_iconst hX 19 (-1) rfl (by decide) ?_
      exact qb_iret hX 20 rfl hR (fun _ h => h)
theorem jm_Model_span {l : Launch} {G : qm_G} (hG : qm_GI G) (this : Nat) (p1 : Int32) (p2 : Int32) (hthis : (qm_kd this).1 = 19) : qm_MI l G jy_Model_span prog_11_method_46_code 4 (some .int) 10 248 [.ref (G.1 this), .int p1, .int p2] (jf_Model_span this p1 p2) :=
  qm_metI (by decide +kernel) jd_Model_span (fun v hv => by simp only [List.mem_cons, List.not_mem_nil, or_false] at hv; rcases hv with rfl | rfl | rfl <;> rfl) (by exact Nat.le_of_ble_eq_true rfl) hG rfl (fun X hl hg hX r0 σ0 hR => by subst hl; subst hg; exact jb_Model_span hX hR this p1 p2 hthis)
def jl_Model_block : List qm_I := [(0, .aload_n 0, 1, 1), (1, .iload_n 1, 1, 2), (2, .invokevirtual 279, 3, 5), (5, .ifCond .eq 15, 3, 8), (8, .iload_n 2, 1, 9), (9, .i2l, 1, 10), (10, .lconst 0, 1, 11), (11, .ldc2_w 282, 3, 14), (14, .invokestatic 129, 3, 17), (17, .ifCond .ne 5, 3, 20), (20, .iconst (-1), 1, 21), (21, .ireturn, 1, 22), (22, .aload_n 0, 1, 23), (23, .invokevirtual 245, 3, 26), (26, .iload_n 2, 1, 27), (27, .tableswitch 102 0 7 #[45, 52, 59, 66, 73, 80, 87, 94], 45, 72), (72, .aload_n 0, 1, 73), (73, .iload_n 1, 1, 74), (74, .iconst 0, 1, 75), (75, .invokevirtual 144, 3, 78), (78, .ireturn, 1, 79), (79, .aload_n 0, 1, 80), (80, .iload_n 1, 1, 81), (81, .iconst 1, 1, 82), (82, .invokevirtual 144, 3, 85), (85, .ireturn, 1, 86), (86, .aload_n 0, 1, 87), (87, .getfield 53, 3, 90), (90, .iload_n 1, 1, 91), (91, .iaload, 1, 92), (92, .ireturn, 1, 93), (93, .aload_n 0, 1, 94), (94, .iload_n 1, 1, 95), (95, .iconst 2, 1, 96), (96, .invokevirtual 144, 3, 99), (99, .ireturn, 1, 100), (100, .aload_n 0, 1, 101), (101, .iload_n 1, 1, 102), (102, .iconst 3, 1, 103), (103, .invokevirtual 144, 3, 106), (106, .ireturn, 1, 107), (107, .aload_n 0, 1, 108), (108, .iload_n 1, 1, 109), (109, .iconst 4, 1, 110), (110, .invokevirtual 144, 3, 113), (113, .ireturn, 1, 114), (114, .aload_n 0, 1, 115), (115, .iload_n 1, 1, 116), (116, .iconst 5, 1, 117), (117, .invokevirtual 144, 3, 120), (120, .ireturn, 1, 121), (121, .aload_n 0, 1, 122), (122, .iload_n 1, 1, 123), (123, .bipush 6, 2, 125), (125, .invokevirtual 144, 3, 128), (128, .ireturn, 1, 129), (129, .aload_n 0, 1, 130), (130, .iload_n 1, 1, 131), (131, .bipush 7, 2, 133), (133, .invokevirtual 144, 3, 136), (136, .ireturn, 1, 137)]
theorem jd_Model_block : qm_D prog_11_method_47_code jl_Model_block := qm_D_of (by decide +kernel)
noncomputable def jf_Model_block (this : Nat) (p1 : Int32) (p2 : Int32) : qm_M Int32 :=
  mB (jf_Model_isBlock this p1) fun x1 =>
  if x1 = 0 then
    mP (-1)
  else
    mB (jf_Model_in (Int32.toInt64 p2) (0 : Int64) (8 : Int64)) fun x2 =>
    if ¬ x2 = 0 then
      mB (jf_Model_lays this) fun _ =>
      if p2 = 0 then
        mB (jf_Model_of this p1 0) fun x3 =>
        mP x3
      else
      if p2 = 1 then
        mB (jf_Model_of this p1 1) fun x4 =>
        mP x4
      else
      if p2 = 2 then
        mB (mLd (qm_rf this 17) p1) fun x5 =>
        mP x5
      else
      if p2 = 3 then
        mB (jf_Model_of this p1 2) fun x6 =>
        mP x6
      else
      if p2 = 4 then
        mB (jf_Model_of this p1 3) fun x7 =>
        mP x7
      else
      if p2 = 5 then
        mB (jf_Model_of this p1 4) fun x8 =>
        mP x8
      else
      if p2 = 6 then
        mB (jf_Model_of this p1 5) fun x9 =>
        mP x9
      else
      if p2 = 7 then
        mB (jf_Model_of this p1 6) fun x10 =>
        mP x10
      else
      mB (jf_Model_of this p1 7) fun x11 =>
      mP x11
    else
      mP (-1)
set_option maxRecDepth 20000 in
set_option maxHeartbeats 4000000 in
theorem jb_Model_block {X : qm_X} (hX : qm_ok X qr_Model prog_11_method_47_code 3 4 90 jl_Model_block) {r0 : Int32} {σ0 : qm_Mem} (hR : qm_RI X r0 σ0 .int) (this : Nat) (p1 : Int32) (p2 : Int32) (hthis : (qm_kd this).1 = 19) : qm_B X (jf_Model_block this p1 p2) 0 [some (.ref (qx_ad X this)), some (.int p1), some (.int p2)] [] (fun r σ1 => r = r0 ∧ σ1 = σ0) := by
  unfold jf_Model_block
  refine qb_aload_n hX 0 rfl rfl ?_
  refine qb_iload_n hX 1 rfl rfl ?_
  refine qb_callI hX 2 rfl cv_Model_279 (jm_Model_isBlock (qk_GI hX) this p1 hthis ) (ci := 9) hthis ⟨rfl, rfl, rfl, by decide, by decide⟩ rfl (by exact Nat.le_of_ble_eq_true rfl) (fun x1 => ?_)
  refine qb_ifeq hX 3 20 rfl (by decide) ?_ ?_
  ·
    refine qb_iconst hX 10 (-1) rfl (by decide) ?_
    exact qb_iret hX 11 rfl hR (fun _ h => h)
  ·
    refine qb_iload_n hX 4 rfl rfl ?_
    refine qb_i2l hX 5 rfl ?_
    refine qb_lconst hX 6 0 rfl (by decide) ?_
    refine qb_ldc2w hX 7 8 rfl kl_Model_282 ?_
    refine qb_calSI hX 8 rfl cv_Model_129 (jm_Model_in (qk_GI hX) (Int32.toInt64 p2) (0 : Int64) (8 : Int64) ) ⟨rfl, by decide, by decide⟩ rfl (by exact Nat.le_of_ble_eq_true rfl) (fun x2 => ?_)
    refine qb_ifne hX 9 22 rfl (by decide) ?_ ?_
    ·
      refine qb_aload_n hX 12 rfl rfl ?_
      refine qb_callV hX 13 rfl cv_Model_245 (jm_Model_lays (qk_GI hX) this  hthis ) (ci := 9) hthis ⟨rfl, rfl, rfl, by decide, by decide⟩ rfl (by exact Nat.le_of_ble_eq_true rfl) ?_
      refine qb_iload_n hX 14 rfl rfl ?_
      refine qb_swc 0 ?_ (fun h0 => ?_)
      ·
        refine qb_tin hX 15 72 rfl (by decide) (by decide) rfl (by decide) ?_
        refine qb_aload_n hX 16 rfl rfl ?_
        refine qb_iload_n hX 17 rfl rfl ?_
        refine qb_iconst hX 18 0 rfl (by decide) ?_
        refine qb_callI hX 19 rfl cv_Model_144 (jm_Model_of (qk_GI hX) this p1 0 hthis ) (ci := 9) hthis ⟨rfl, rfl, rfl, by decide, by decide⟩ rfl (by exact Nat.le_of_ble_eq_true rfl) (fun x3 => ?_)
        exact qb_iret hX 20 rfl hR (fun _ h => h)
      refine qb_swc 1 ?_ (fun h1 => ?_)
      ·
        refine qb_tin hX 15 79 rfl (by decide) (by decide) rfl (by decide) ?_
        refine qb_aload_n hX 21 rfl rfl ?_
        refine qb_iload_n hX 22 rfl rfl ?_
        refine qb_iconst hX 23 1 rfl (by decide) ?_
        refine qb_callI hX 24 rfl cv_Model_144 (jm_Model_of (qk_GI hX) this p1 1 hthis ) (ci := 9) hthis ⟨rfl, rfl, rfl, by decide, by decide⟩ rfl (by exact Nat.le_of_ble_eq_true rfl) (fun x4 => ?_)
        exact qb_iret hX 25 rfl hR (fun _ h => h)
      refine qb_swc 2 ?_ (fun h2 => ?_)
      ·
        refine qb_tin hX 15 86 rfl (by decide) (by decide) rfl (by decide) ?_
        refine qb_aload_n hX 26 rfl rfl ?_
        refine qb_getR hX 27 rfl fl_Model_53 hthis rfl ?_
        refine qb_iload_n hX 28 rfl rfl ?_
        refine qb_iald hX 29 rfl (kf_Model_17 hthis) (fun x5 => ?_)
        exact qb_iret hX 30 rfl hR (fun _ h => h)
      refine qb_swc 3 ?_ (fun h3 => ?_)
      ·
        refine qb_tin hX 15 93 rfl (by decide) (by decide) rfl (by decide) ?_
        refine qb_aload_n hX 31 rfl rfl ?_
        refine qb_iload_n hX 32 rfl rfl ?_
        refine qb_iconst hX 33 2 rfl (by decide) ?_
        refine qb_callI hX 34 rfl cv_Model_144 (jm_Model_of (qk_GI hX) this p1 2 hthis ) (ci := 9) hthis ⟨rfl, rfl, rfl, by decide, by decide⟩ rfl (by exact Nat.le_of_ble_eq_true rfl) (fun x6 => ?_)
        exact qb_iret hX 35 rfl hR (fun _ h => h)
      refine qb_swc 4 ?_ (fun h4 => ?_)
      ·
        refine qb_tin hX 15 100 rfl (by decide) (by decide) rfl (by decide) ?_
        refine qb_aload_n hX 36 rfl rfl ?_
        refine qb_iload_n hX 37 rfl rfl ?_
        refine qb_iconst hX 38 3 rfl (by decide) ?_
        refine qb_callI hX 39 rfl cv_Model_144 (jm_Model_of (qk_GI hX) this p1 3 hthis ) (ci := 9) hthis ⟨rfl, rfl, rfl, by decide, by decide⟩ rfl (by exact Nat.le_of_ble_eq_true rfl) (fun x7 => ?_)
        exact qb_iret hX 40 rfl hR (fun _ h => h)
      refine qb_swc 5 ?_ (fun h5 => ?_)
      ·
        refine qb_tin hX 15 107 rfl (by decide) (by decide) rfl (by decide) ?_
        refine qb_aload_n hX 41 rfl rfl ?_
        refine qb_iload_n hX 42 rfl rfl ?_
        refine qb_iconst hX 43 4 rfl (by decide) ?_
        refine qb_callI hX 44 rfl cv_Model_144 (jm_Model_of (qk_GI hX) this p1 4 hthis ) (ci := 9) hthis ⟨rfl, rfl, rfl, by decide, by decide⟩ rfl (by exact Nat.le_of_ble_eq_true rfl) (fun x8 => ?_)
        exact qb_iret hX 45 rfl hR (fun _ h => h)
      refine qb_swc 6 ?_ (fun h6 => ?_)
      ·
        refine qb_tin hX 15 114 rfl (by decide) (by decide) rfl (by decide) ?_
        refine qb_aload_n hX 46 rfl rfl ?_
        refine qb_iload_n hX 47 rfl rfl ?_
        refine qb_iconst hX 48 5 rfl (by decide) ?_
        refine qb_callI hX 49 rfl cv_Model_144 (jm_Model_of (qk_GI hX) this p1 5 hthis ) (ci := 9) hthis ⟨rfl, rfl, rfl, by decide, by decide⟩ rfl (by exact Nat.le_of_ble_eq_true rfl) (fun x9 => ?_)
        exact qb_iret hX 50 rfl hR (fun _ h => h)
      refine qb_swc 7 ?_ (fun h7 => ?_)
      ·
        refine qb_tin hX 15 121 rfl (by decide) (by decide) rfl (by decide) ?_
        refine qb_aload_n hX 51 rfl rfl ?_
        refine qb_iload_n hX 52 rfl rfl ?_
        refine qb_bipush hX 53 6 rfl (by decide) ?_
        refine qb_callI hX 54 rfl cv_Model_144 (jm_Model_of (qk_GI hX) this p1 6 hthis ) (ci := 9) hthis ⟨rfl, rfl, rfl, by decide, by decide⟩ rfl (by exact Nat.le_of_ble_eq_true rfl) (fun x10 => ?_)
        exact qb_iret hX 55 rfl hR (fun _ h => h)
      refine qb_tout hX 15 129 rfl (by have g0 := lv_neT (a := 0) h0 (by decide); have g1 := lv_neT (a := 1) h1 (by decide); have g2 := lv_neT (a := 2) h2 (by decide); have g3 := lv_neT (a := 3) h3 (by decide); have g4 := lv_neT (a := 4) h4 (by decide); have g5 := lv_neT (a := 5) h5 (by decide); have g6 := lv_neT (a := 6) h6 (by decide); have g7 := lv_neT (a := 7) h7 (by decide); omega) (by decide) ?_
      refine qb_aload_n hX 56 rfl rfl ?_
      refine qb_iload_n hX 57 rfl rfl ?_
      refine qb_bipush hX 58 7 rfl (by decide) ?_
      refine qb_callI hX 59 rfl cv_Model_144 (jm_Model_of (qk_GI hX) this p1 7 hthis ) (ci := 9) hthis ⟨rfl, rfl, rfl, by decide, by decide⟩ rfl (by exact Nat.le_of_ble_eq_true rfl) (fun x11 => ?_)
      exact qb_iret hX 60 rfl hR (fun _ h => h)
    ·
      refine qb_iconst hX 10 (-1) rfl (by decide) ?_
      exact qb_iret hX 11 rfl hR (fun _ h => h)
theorem jm_Model_block {l : Launch} {G : qm_G} (hG : qm_GI G) (this : Nat) (p1 : Int32) (p2 : Int32) (hthis : (qm_kd this).1 = 19) : qm_MI l G jy_Model_block prog_11_method_47_code 3 (some .int) 4 90 [.ref (G.1 this), .int p1, .int p2] (jf_Model_block this p1 p2) :=
  qm_metI (by decide +kernel) jd_Model_block (fun v hv => by simp only [List.mem_cons, List.not_mem_nil, or_false] at hv; rcases hv with rfl | rfl | rfl <;> rfl) (by exact Nat.le_of_ble_eq_true rfl) hG rfl (fun X hl hg hX r0 σ0 hR => by subst hl; subst hg; exact jb_Model_block hX hR this p1 p2 hthis)
def jl_Model_piece : List qm_I := [(0, .aload_n 0, 1, 1), (1, .invokevirtual 245, 3, 4), (4, .iload_n 1, 1, 5), (5, .i2l, 1, 6), (6, .lconst 0, 1, 7), (7, .aload_n 0, 1, 8), (8, .getfield 148, 3, 11), (11, .iconst 1, 1, 12), (12, .isub, 1, 13), (13, .i2l, 1, 14), (14, .invokestatic 129, 3, 17), (17, .ifCond .ne 5, 3, 20), (20, .iconst (-1), 1, 21), (21, .ireturn, 1, 22), (22, .iload_n 2, 1, 23), (23, .tableswitch 98 0 6 #[41, 48, 55, 62, 69, 76, 91], 41, 64), (64, .aload_n 0, 1, 65), (65, .getfield 26, 3, 68), (68, .iload_n 1, 1, 69), (69, .iaload, 1, 70), (70, .ireturn, 1, 71), (71, .aload_n 0, 1, 72), (72, .getfield 29, 3, 75), (75, .iload_n 1, 1, 76), (76, .iaload, 1, 77), (77, .ireturn, 1, 78), (78, .aload_n 0, 1, 79), (79, .getfield 32, 3, 82), (82, .iload_n 1, 1, 83), (83, .iaload, 1, 84), (84, .ireturn, 1, 85), (85, .aload_n 0, 1, 86), (86, .getfield 35, 3, 89), (89, .iload_n 1, 1, 90), (90, .iaload, 1, 91), (91, .ireturn, 1, 92), (92, .aload_n 0, 1, 93), (93, .getfield 38, 3, 96), (96, .iload_n 1, 1, 97), (97, .iaload, 1, 98), (98, .ireturn, 1, 99), (99, .aload_n 0, 1, 100), (100, .getfield 44, 3, 103), (103, .iload_n 1, 1, 104), (104, .baload, 1, 105), (105, .ifCond .eq 7, 3, 108), (108, .iconst 1, 1, 109), (109, .goto 4, 3, 112), (112, .iconst 0, 1, 113), (113, .ireturn, 1, 114), (114, .aload_n 0, 1, 115), (115, .getfield 41, 3, 118), (118, .iload_n 1, 1, 119), (119, .iaload, 1, 120), (120, .ireturn, 1, 121), (121, .iconst (-1), 1, 122), (122, .ireturn, 1, 123)]
theorem jd_Model_piece : qm_D prog_11_method_48_code jl_Model_piece := qm_D_of (by decide +kernel)
noncomputable def jf_Model_piece (this : Nat) (p1 : Int32) (p2 : Int32) : qm_M Int32 :=
  mB (jf_Model_lays this) fun _ =>
  mB (mGt this 13) fun x1 =>
  mB (jf_Model_in (Int32.toInt64 p1) (0 : Int64) (Int32.toInt64 (x1 - 1))) fun x2 =>
  if ¬ x2 = 0 then
    if p2 = 0 then
      mB (mLd (qm_rf this 6) p1) fun x3 =>
      mP x3
    else
    if p2 = 1 then
      mB (mLd (qm_rf this 7) p1) fun x4 =>
      mP x4
    else
    if p2 = 2 then
      mB (mLd (qm_rf this 8) p1) fun x5 =>
      mP x5
    else
    if p2 = 3 then
      mB (mLd (qm_rf this 9) p1) fun x6 =>
      mP x6
    else
    if p2 = 4 then
      mB (mLd (qm_rf this 10) p1) fun x7 =>
      mP x7
    else
    if p2 = 5 then
      mB (mLd (qm_rf this 12) p1) fun x8 =>
      if x8 = 0 then
        mP 0
      else
        mP 1
    else
    if p2 = 6 then
      mB (mLd (qm_rf this 11) p1) fun x9 =>
      mP x9
    else
    mP (-1)
  else
    mP (-1)
set_option maxRecDepth 20000 in
set_option maxHeartbeats 4000000 in
theorem jb_Model_piece {X : qm_X} (hX : qm_ok X qr_Model prog_11_method_48_code 3 4 90 jl_Model_piece) {r0 : Int32} {σ0 : qm_Mem} (hR : qm_RI X r0 σ0 .int) (this : Nat) (p1 : Int32) (p2 : Int32) (hthis : (qm_kd this).1 = 19) : qm_B X (jf_Model_piece this p1 p2) 0 [some (.ref (qx_ad X this)), some (.int p1), some (.int p2)] [] (fun r σ1 => r = r0 ∧ σ1 = σ0) := by
  unfold jf_Model_piece
  refine qb_aload_n hX 0 rfl rfl ?_
  refine qb_callV hX 1 rfl cv_Model_245 (jm_Model_lays (qk_GI hX) this  hthis ) (ci := 9) hthis ⟨rfl, rfl, rfl, by decide, by decide⟩ rfl (by exact Nat.le_of_ble_eq_true rfl) ?_
  refine qb_iload_n hX 2 rfl rfl ?_
  refine qb_i2l hX 3 rfl ?_
  refine qb_lconst hX 4 0 rfl (by decide) ?_
  refine qb_aload_n hX 5 rfl rfl ?_
  refine qb_get hX 6 rfl fl_Model_148 hthis rfl (fun x1 => ?_)
  refine qb_iconst hX 7 1 rfl (by decide) ?_
  refine qb_isub hX 8 rfl ?_
  refine qb_i2l hX 9 rfl ?_
  refine qb_calSI hX 10 rfl cv_Model_129 (jm_Model_in (qk_GI hX) (Int32.toInt64 p1) (0 : Int64) (Int32.toInt64 (x1 - 1)) ) ⟨rfl, by decide, by decide⟩ rfl (by exact Nat.le_of_ble_eq_true rfl) (fun x2 => ?_)
  refine qb_ifne hX 11 22 rfl (by decide) ?_ ?_
  ·
    refine qb_iload_n hX 14 rfl rfl ?_
    refine qb_swc 0 ?_ (fun h0 => ?_)
    ·
      refine qb_tin hX 15 64 rfl (by decide) (by decide) rfl (by decide) ?_
      refine qb_aload_n hX 16 rfl rfl ?_
      refine qb_getR hX 17 rfl fl_Model_26 hthis rfl ?_
      refine qb_iload_n hX 18 rfl rfl ?_
      refine qb_iald hX 19 rfl (kf_Model_6 hthis) (fun x3 => ?_)
      exact qb_iret hX 20 rfl hR (fun _ h => h)
    refine qb_swc 1 ?_ (fun h1 => ?_)
    ·
      refine qb_tin hX 15 71 rfl (by decide) (by decide) rfl (by decide) ?_
      refine qb_aload_n hX 21 rfl rfl ?_
      refine qb_getR hX 22 rfl fl_Model_29 hthis rfl ?_
      refine qb_iload_n hX 23 rfl rfl ?_
      refine qb_iald hX 24 rfl (kf_Model_7 hthis) (fun x4 => ?_)
      exact qb_iret hX 25 rfl hR (fun _ h => h)
    refine qb_swc 2 ?_ (fun h2 => ?_)
    ·
      refine qb_tin hX 15 78 rfl (by decide) (by decide) rfl (by decide) ?_
      refine qb_aload_n hX 26 rfl rfl ?_
      refine qb_getR hX 27 rfl fl_Model_32 hthis rfl ?_
      refine qb_iload_n hX 28 rfl rfl ?_
      refine qb_iald hX 29 rfl (kf_Model_8 hthis) (fun x5 => ?_)
      exact qb_iret hX 30 rfl hR (fun _ h => h)
    refine qb_swc 3 ?_ (fun h3 => ?_)
    ·
      refine qb_tin hX 15 85 rfl (by decide) (by decide) rfl (by decide) ?_
      refine qb_aload_n hX 31 rfl rfl ?_
      refine qb_getR hX 32 rfl fl_Model_35 hthis rfl ?_
      refine qb_iload_n hX 33 rfl rfl ?_
      refine qb_iald hX 34 rfl (kf_Model_9 hthis) (fun x6 => ?_)
      exact qb_iret hX 35 rfl hR (fun _ h => h)
    refine qb_swc 4 ?_ (fun h4 => ?_)
    ·
      refine qb_tin hX 15 92 rfl (by decide) (by decide) rfl (by decide) ?_
      refine qb_aload_n hX 36 rfl rfl ?_
      refine qb_getR hX 37 rfl fl_Model_38 hthis rfl ?_
      refine qb_iload_n hX 38 rfl rfl ?_
      refine qb_iald hX 39 rfl (kf_Model_10 hthis) (fun x7 => ?_)
      exact qb_iret hX 40 rfl hR (fun _ h => h)
    refine qb_swc 5 ?_ (fun h5 => ?_)
    ·
      refine qb_tin hX 15 99 rfl (by decide) (by decide) rfl (by decide) ?_
      refine qb_aload_n hX 41 rfl rfl ?_
      refine qb_getR hX 42 rfl fl_Model_44 hthis rfl ?_
      refine qb_iload_n hX 43 rfl rfl ?_
      refine qb_zald hX 44 rfl (kf_Model_12 hthis) (fun x8 => ?_)
      refine qb_ifeq hX 45 112 rfl (by decide) ?_ ?_
      ·
        refine qb_iconst hX 48 0 rfl (by decide) ?_
        exact qb_iret hX 49 rfl hR (fun _ h => h)
      ·
        refine qb_iconst hX 46 1 rfl (by decide) ?_
        refine qb_goto hX 47 (tgt := 113) rfl (by decide) ?_
        exact qb_iret hX 49 rfl hR (fun _ h => h)
    refine qb_swc 6 ?_ (fun h6 => ?_)
    ·
      refine qb_tin hX 15 114 rfl (by decide) (by decide) rfl (by decide) ?_
      refine qb_aload_n hX 50 rfl rfl ?_
      refine qb_getR hX 51 rfl fl_Model_41 hthis rfl ?_
      refine qb_iload_n hX 52 rfl rfl ?_
      refine qb_iald hX 53 rfl (kf_Model_11 hthis) (fun x9 => ?_)
      exact qb_iret hX 54 rfl hR (fun _ h => h)
    refine qb_tout hX 15 121 rfl (by have g0 := lv_neT (a := 0) h0 (by decide); have g1 := lv_neT (a := 1) h1 (by decide); have g2 := lv_neT (a := 2) h2 (by decide); have g3 := lv_neT (a := 3) h3 (by decide); have g4 := lv_neT (a := 4) h4 (by decide); have g5 := lv_neT (a := 5) h5 (by decide); have g6 := lv_neT (a := 6) h6 (by decide); omega) (by decide) ?_
    refine qb_iconst hX 55 (-1) rfl (by decide) ?_
    exact qb_iret hX 56 rfl hR (fun _ h => h)
  ·
    refine qb_iconst hX 12 (-1) rfl (by decide) ?_
    exact qb_iret hX 13 rfl hR (fun _ h => h)
theorem jm_Model_piece {l : Launch} {G : qm_G} (hG : qm_GI G) (this : Nat) (p1 : Int32) (p2 : Int32) (hthis : (qm_kd this).1 = 19) : qm_MI l G jy_Model_piece prog_11_method_48_code 3 (some .int) 4 90 [.ref (G.1 this), .int p1, .int p2] (jf_Model_piece this p1 p2) :=
  qm_metI (by decide +kernel) jd_Model_piece (fun v hv => by simp only [List.mem_cons, List.not_mem_nil, or_false] at hv; rcases hv with rfl | rfl | rfl <;> rfl) (by exact Nat.le_of_ble_eq_true rfl) hG rfl (fun X hl hg hX r0 σ0 hR => by subst hl; subst hg; exact jb_Model_piece hX hR this p1 p2 hthis)
def jl_Model_isSection : List qm_I := [(0, .iload_n 1, 1, 1), (1, .i2l, 1, 2), (2, .lconst 0, 1, 3), (3, .aload_n 0, 1, 4), (4, .getfield 155, 3, 7), (7, .iconst 1, 1, 8), (8, .isub, 1, 9), (9, .i2l, 1, 10), (10, .invokestatic 129, 3, 13), (13, .ireturn, 1, 14)]
theorem jd_Model_isSection : qm_D prog_11_method_49_code jl_Model_isSection := qm_D_of (by decide +kernel)
noncomputable def jf_Model_isSection (this : Nat) (p1 : Int32) : qm_M Int32 :=
  mB (mGt this 16) fun x1 =>
  mB (jf_Model_in (Int32.toInt64 p1) (0 : Int64) (Int32.toInt64 (x1 - 1))) fun x2 =>
  mB (mZ x2) fun x3 => mP x3
set_option maxRecDepth 20000 in
set_option maxHeartbeats 4000000 in
theorem jb_Model_isSection {X : qm_X} (hX : qm_ok X qr_Model prog_11_method_49_code 2 1 25 jl_Model_isSection) {r0 : Int32} {σ0 : qm_Mem} (hR : qm_RI X r0 σ0 .boolean) (this : Nat) (p1 : Int32) (hthis : (qm_kd this).1 = 19) : qm_B X (jf_Model_isSection this p1) 0 [some (.ref (qx_ad X this)), some (.int p1)] [] (fun r σ1 => r = r0 ∧ σ1 = σ0) := by
  unfold jf_Model_isSection
  refine qb_iload_n hX 0 rfl rfl ?_
  refine qb_i2l hX 1 rfl ?_
  refine qb_lconst hX 2 0 rfl (by decide) ?_
  refine qb_aload_n hX 3 rfl rfl ?_
  refine qb_get hX 4 rfl fl_Model_155 hthis rfl (fun x1 => ?_)
  refine qb_iconst hX 5 1 rfl (by decide) ?_
  refine qb_isub hX 6 rfl ?_
  refine qb_i2l hX 7 rfl ?_
  refine qb_calSI hX 8 rfl cv_Model_129 (jm_Model_in (qk_GI hX) (Int32.toInt64 p1) (0 : Int64) (Int32.toInt64 (x1 - 1)) ) ⟨rfl, by decide, by decide⟩ rfl (by exact Nat.le_of_ble_eq_true rfl) (fun x2 => ?_)
  exact qb_zret hX 9 (a := fun x3 => x3) rfl hR (fun _ h => h)
theorem jm_Model_isSection {l : Launch} {G : qm_G} (hG : qm_GI G) (this : Nat) (p1 : Int32) (hthis : (qm_kd this).1 = 19) : qm_MI l G jy_Model_isSection prog_11_method_49_code 2 (some .boolean) 1 25 [.ref (G.1 this), .int p1] (jf_Model_isSection this p1) :=
  qm_metI (by decide +kernel) jd_Model_isSection (fun v hv => by simp only [List.mem_cons, List.not_mem_nil, or_false] at hv; rcases hv with rfl | rfl <;> rfl) (by exact Nat.le_of_ble_eq_true rfl) hG rfl (fun X hl hg hX r0 σ0 hR => by subst hl; subst hg; exact jb_Model_isSection hX hR this p1 hthis)
def jl_Model_endsOf : List qm_I := [(0, .iconst 0, 1, 1), (1, .istore_n 2, 1, 2), (2, .aload_n 0, 1, 3), (3, .getfield 47, 3, 6), (6, .iload_n 1, 1, 7), (7, .iaload, 1, 8), (8, .istore_n 3, 1, 9), (9, .iload_n 3, 1, 10), (10, .aload_n 0, 1, 11), (11, .iload_n 1, 1, 12), (12, .invokevirtual 179, 3, 15), (15, .if_icmp .gt 26, 3, 18), (18, .iload_n 2, 1, 19), (19, .aload_n 0, 1, 20), (20, .iload_n 1, 1, 21), (21, .iload_n 3, 1, 22), (22, .invokevirtual 182, 3, 25), (25, .ifCond .eq 7, 3, 28), (28, .iconst 1, 1, 29), (29, .goto 4, 3, 32), (32, .iconst 0, 1, 33), (33, .iadd, 1, 34), (34, .istore_n 2, 1, 35), (35, .iinc 3 1, 3, 38), (38, .goto (-29), 3, 41), (41, .iload_n 2, 1, 42), (42, .ireturn, 1, 43)]
theorem jd_Model_endsOf : qm_D prog_11_method_50_code jl_Model_endsOf := qm_D_of (by decide +kernel)
noncomputable def jf_Model_endsOf (this : Nat) (p1 : Int32) : qm_M Int32 :=
  mB (mLd (qm_rf this 14) p1) fun x1 =>
  mB (α := Int32) (
    mW (S := Int32 × Int32) (α := Int32) (fun s3 =>
      mB (jf_Model_endOf this p1) fun x4 =>
      if x4 < s3.2 then
        mP (Sum.inr s3.1)
      else
        mB (jf_Model_isEnd this p1 s3.2) fun x5 =>
        mB (α := Int32) (
          if x5 = 0 then
            mP 0
          else
            mP 1) fun s6 =>
        mB (mP (s3.1 + s6)) fun x7 =>
        mB (mP (s3.2 + 1)) fun x8 =>
        mP (Sum.inl (x7, x8))) (0, x1)) fun s2 =>
  mP s2
set_option maxRecDepth 20000 in
set_option maxHeartbeats 4000000 in
theorem jb_Model_endsOf {X : qm_X} (hX : qm_ok X qr_Model prog_11_method_50_code 4 1 22 jl_Model_endsOf) {r0 : Int32} {σ0 : qm_Mem} (hR : qm_RI X r0 σ0 .int) (this : Nat) (p1 : Int32) (hthis : (qm_kd this).1 = 19) : qm_B X (jf_Model_endsOf this p1) 0 [some (.ref (qx_ad X this)), some (.int p1), none, none] [] (fun r σ1 => r = r0 ∧ σ1 = σ0) := by
  unfold jf_Model_endsOf
  refine qb_iconst hX 0 0 rfl (by decide) ?_
  refine qb_istore_n hX 1 ([some (.ref (qx_ad X this)), some (.int p1), some (.int 0), none]) rfl (by decide) rfl ?_
  refine qb_aload_n hX 2 rfl rfl ?_
  refine qb_getR hX 3 rfl fl_Model_47 hthis rfl ?_
  refine qb_iload_n hX 4 rfl rfl ?_
  refine qb_iald hX 5 rfl (kf_Model_14 hthis) (fun x1 => ?_)
  refine qb_istore_n hX 6 ([some (.ref (qx_ad X this)), some (.int p1), some (.int 0), some (.int x1)]) rfl (by decide) rfl ?_
  refine qb_join 41 (fun s2 => [none, none, some (.int s2), none]) (fun s2 => []) ?_ ?_
  ·
    refine qb_loopw ((0, x1)) (fun s3 => [some (.ref (qx_ad X this)), some (.int p1), some (.int s3.1), some (.int s3.2)]) (qw_s (qw_s (qw_s (qw_s (qw_0))))) (fun s3 => ?_)
    refine qb_iload_n hX 7 rfl rfl ?_
    refine qb_aload_n hX 8 rfl rfl ?_
    refine qb_iload_n hX 9 rfl rfl ?_
    refine qb_callI hX 10 rfl cv_Model_179 (jm_Model_endOf (qk_GI hX) this p1 hthis ) (ci := 9) hthis ⟨rfl, rfl, rfl, by decide, by decide⟩ rfl (by exact Nat.le_of_ble_eq_true rfl) (fun x4 => ?_)
    refine qb_icgt hX 11 41 rfl (by decide) ?_ ?_
    ·
      exact qb_exit (fun σ h => qj_wk (ρ' := [none, none, some (.int s3.1), none]) (qw_n (qw_n (qw_s (qw_n (qw_0))))) h)
    ·
      refine qb_iload_n hX 12 rfl rfl ?_
      refine qb_aload_n hX 13 rfl rfl ?_
      refine qb_iload_n hX 14 rfl rfl ?_
      refine qb_iload_n hX 15 rfl rfl ?_
      refine qb_callI hX 16 rfl cv_Model_182 (jm_Model_isEnd (qk_GI hX) this p1 s3.2 hthis ) (ci := 9) hthis ⟨rfl, rfl, rfl, by decide, by decide⟩ rfl (by exact Nat.le_of_ble_eq_true rfl) (fun x5 => ?_)
      refine qb_join 33 (fun s6 => [some (.ref (qx_ad X this)), some (.int p1), none, some (.int s3.2)]) (fun s6 => [.int s6, .int s3.1]) ?_ ?_
      ·
        refine qb_ifeq hX 17 32 rfl (by decide) ?_ ?_
        ·
          refine qb_iconst hX 20 0 rfl (by decide) ?_
          exact qb_exit (fun σ h => qj_wk (ρ' := [some (.ref (qx_ad X this)), some (.int p1), none, some (.int s3.2)]) (qw_s (qw_s (qw_n (qw_s (qw_0))))) h)
        ·
          refine qb_iconst hX 18 1 rfl (by decide) ?_
          exact qb_exit (fun σ h => qj_goto hX 19 rfl (by decide) (qj_wk (ρ' := [some (.ref (qx_ad X this)), some (.int p1), none, some (.int s3.2)]) (qw_s (qw_s (qw_n (qw_s (qw_0))))) h))
      · intro s6
        refine qb_iadd hX 21 rfl ?_
        refine qb_istore_nL hX 22 (fun x7 => [some (.ref (qx_ad X this)), some (.int p1), some (.int x7), some (.int s3.2)]) rfl (by decide) (fun _ => rfl) (fun x7 => ?_)
        refine qb_iinc hX 23 1 (fun x8 => [some (.ref (qx_ad X this)), some (.int p1), some (.int x7), some (.int x8)]) rfl (by decide) (by decide) rfl (fun _ => rfl) (fun x8 => ?_)
        exact qb_exit (fun σ h => qj_goto hX 24 rfl (by decide) (qj_wk (ρ' := [some (.ref (qx_ad X this)), some (.int p1), some (.int x7), some (.int x8)]) (qw_s (qw_s (qw_s (qw_s (qw_0))))) h))
  · intro s2
    refine qb_iload_n hX 25 rfl rfl ?_
    exact qb_iret hX 26 rfl hR (fun _ h => h)
theorem jm_Model_endsOf {l : Launch} {G : qm_G} (hG : qm_GI G) (this : Nat) (p1 : Int32) (hthis : (qm_kd this).1 = 19) : qm_MI l G jy_Model_endsOf prog_11_method_50_code 4 (some .int) 1 22 [.ref (G.1 this), .int p1] (jf_Model_endsOf this p1) :=
  qm_metI (by decide +kernel) jd_Model_endsOf (fun v hv => by simp only [List.mem_cons, List.not_mem_nil, or_false] at hv; rcases hv with rfl | rfl <;> rfl) (by exact Nat.le_of_ble_eq_true rfl) hG rfl (fun X hl hg hX r0 σ0 hR => by subst hl; subst hg; exact jb_Model_endsOf hX hR this p1 hthis)
def jl_Model_section : List qm_I := [(0, .aload_n 0, 1, 1), (1, .invokevirtual 245, 3, 4), (4, .aload_n 0, 1, 5), (5, .iload_n 1, 1, 6), (6, .invokevirtual 284, 3, 9), (9, .ifCond .ne 5, 3, 12), (12, .iconst (-1), 1, 13), (13, .ireturn, 1, 14), (14, .iload_n 2, 1, 15), (15, .tableswitch 75 0 4 #[33, 40, 46, 53, 59], 33, 48), (48, .aload_n 0, 1, 49), (49, .getfield 47, 3, 52), (52, .iload_n 1, 1, 53), (53, .iaload, 1, 54), (54, .ireturn, 1, 55), (55, .aload_n 0, 1, 56), (56, .iload_n 1, 1, 57), (57, .invokevirtual 179, 3, 60), (60, .ireturn, 1, 61), (61, .aload_n 0, 1, 62), (62, .getfield 50, 3, 65), (65, .iload_n 1, 1, 66), (66, .iaload, 1, 67), (67, .ireturn, 1, 68), (68, .aload_n 0, 1, 69), (69, .iload_n 1, 1, 70), (70, .invokevirtual 287, 3, 73), (73, .ireturn, 1, 74), (74, .aload_n 0, 1, 75), (75, .aload_n 0, 1, 76), (76, .getfield 47, 3, 79), (79, .iload_n 1, 1, 80), (80, .iaload, 1, 81), (81, .aload_n 0, 1, 82), (82, .iload_n 1, 1, 83), (83, .invokevirtual 179, 3, 86), (86, .invokevirtual 172, 3, 89), (89, .ireturn, 1, 90), (90, .iconst (-1), 1, 91), (91, .ireturn, 1, 92)]
theorem jd_Model_section : qm_D prog_11_method_51_code jl_Model_section := qm_D_of (by decide +kernel)
noncomputable def jf_Model_section (this : Nat) (p1 : Int32) (p2 : Int32) : qm_M Int32 :=
  mB (jf_Model_lays this) fun _ =>
  mB (jf_Model_isSection this p1) fun x1 =>
  if ¬ x1 = 0 then
    if p2 = 0 then
      mB (mLd (qm_rf this 14) p1) fun x2 =>
      mP x2
    else
    if p2 = 1 then
      mB (jf_Model_endOf this p1) fun x3 =>
      mP x3
    else
    if p2 = 2 then
      mB (mLd (qm_rf this 15) p1) fun x4 =>
      mP x4
    else
    if p2 = 3 then
      mB (jf_Model_endsOf this p1) fun x5 =>
      mP x5
    else
    if p2 = 4 then
      mB (mLd (qm_rf this 14) p1) fun x6 =>
      mB (jf_Model_endOf this p1) fun x7 =>
      mB (jf_Model_ownOf this x6 x7) fun x8 =>
      mP x8
    else
    mP (-1)
  else
    mP (-1)
set_option maxRecDepth 20000 in
set_option maxHeartbeats 4000000 in
theorem jb_Model_section {X : qm_X} (hX : qm_ok X qr_Model prog_11_method_51_code 3 4 90 jl_Model_section) {r0 : Int32} {σ0 : qm_Mem} (hR : qm_RI X r0 σ0 .int) (this : Nat) (p1 : Int32) (p2 : Int32) (hthis : (qm_kd this).1 = 19) : qm_B X (jf_Model_section this p1 p2) 0 [some (.ref (qx_ad X this)), some (.int p1), some (.int p2)] [] (fun r σ1 => r = r0 ∧ σ1 = σ0) := by
  unfold jf_Model_section
  refine qb_aload_n hX 0 rfl rfl ?_
  refine qb_callV hX 1 rfl cv_Model_245 (jm_Model_lays (qk_GI hX) this  hthis ) (ci := 9) hthis ⟨rfl, rfl, rfl, by decide, by decide⟩ rfl (by exact Nat.le_of_ble_eq_true rfl) ?_
  refine qb_aload_n hX 2 rfl rfl ?_
  refine qb_iload_n hX 3 rfl rfl ?_
  refine qb_callI hX 4 rfl cv_Model_284 (jm_Model_isSection (qk_GI hX) this p1 hthis ) (ci := 9) hthis ⟨rfl, rfl, rfl, by decide, by decide⟩ rfl (by exact Nat.le_of_ble_eq_true rfl) (fun x1 => ?_)
  refine qb_ifne hX 5 14 rfl (by decide) ?_ ?_
  ·
    refine qb_iload_n hX 8 rfl rfl ?_
    refine qb_swc 0 ?_ (fun h0 => ?_)
    ·
      refine qb_tin hX 9 48 rfl (by decide) (by decide) rfl (by decide) ?_
      refine qb_aload_n hX 10 rfl rfl ?_
      refine qb_getR hX 11 rfl fl_Model_47 hthis rfl ?_
      refine qb_iload_n hX 12 rfl rfl ?_
      refine qb_iald hX 13 rfl (kf_Model_14 hthis) (fun x2 => ?_)
      exact qb_iret hX 14 rfl hR (fun _ h => h)
    refine qb_swc 1 ?_ (fun h1 => ?_)
    ·
      refine qb_tin hX 9 55 rfl (by decide) (by decide) rfl (by decide) ?_
      refine qb_aload_n hX 15 rfl rfl ?_
      refine qb_iload_n hX 16 rfl rfl ?_
      refine qb_callI hX 17 rfl cv_Model_179 (jm_Model_endOf (qk_GI hX) this p1 hthis ) (ci := 9) hthis ⟨rfl, rfl, rfl, by decide, by decide⟩ rfl (by exact Nat.le_of_ble_eq_true rfl) (fun x3 => ?_)
      exact qb_iret hX 18 rfl hR (fun _ h => h)
    refine qb_swc 2 ?_ (fun h2 => ?_)
    ·
      refine qb_tin hX 9 61 rfl (by decide) (by decide) rfl (by decide) ?_
      refine qb_aload_n hX 19 rfl rfl ?_
      refine qb_getR hX 20 rfl fl_Model_50 hthis rfl ?_
      refine qb_iload_n hX 21 rfl rfl ?_
      refine qb_iald hX 22 rfl (kf_Model_15 hthis) (fun x4 => ?_)
      exact qb_iret hX 23 rfl hR (fun _ h => h)
    refine qb_swc 3 ?_ (fun h3 => ?_)
    ·
      refine qb_tin hX 9 68 rfl (by decide) (by decide) rfl (by decide) ?_
      refine qb_aload_n hX 24 rfl rfl ?_
      refine qb_iload_n hX 25 rfl rfl ?_
      refine qb_callI hX 26 rfl cv_Model_287 (jm_Model_endsOf (qk_GI hX) this p1 hthis ) (ci := 9) hthis ⟨rfl, rfl, rfl, by decide, by decide⟩ rfl (by exact Nat.le_of_ble_eq_true rfl) (fun x5 => ?_)
      exact qb_iret hX 27 rfl hR (fun _ h => h)
    refine qb_swc 4 ?_ (fun h4 => ?_)
    ·
      refine qb_tin hX 9 74 rfl (by decide) (by decide) rfl (by decide) ?_
      refine qb_aload_n hX 28 rfl rfl ?_
      refine qb_aload_n hX 29 rfl rfl ?_
      refine qb_getR hX 30 rfl fl_Model_47 hthis rfl ?_
      refine qb_iload_n hX 31 rfl rfl ?_
      refine qb_iald hX 32 rfl (kf_Model_14 hthis) (fun x6 => ?_)
      refine qb_aload_n hX 33 rfl rfl ?_
      refine qb_iload_n hX 34 rfl rfl ?_
      refine qb_callI hX 35 rfl cv_Model_179 (jm_Model_endOf (qk_GI hX) this p1 hthis ) (ci := 9) hthis ⟨rfl, rfl, rfl, by decide, by decide⟩ rfl (by exact Nat.le_of_ble_eq_true rfl) (fun x7 => ?_)
      refine qb_callI hX 36 rfl cv_Model_172 (jm_Model_ownOf (qk_GI hX) this x6 x7 hthis ) (ci := 9) hthis ⟨rfl, rfl, rfl, by decide, by decide⟩ rfl (by exact Nat.le_of_ble_eq_true rfl) (fun x8 => ?_)
      exact qb_iret hX 37 rfl hR (fun _ h => h)
    refine qb_tout hX 9 90 rfl (by have g0 := lv_neT (a := 0) h0 (by decide); have g1 := lv_neT (a := 1) h1 (by decide); have g2 := lv_neT (a := 2) h2 (by decide); have g3 := lv_neT (a := 3) h3 (by decide); have g4 := lv_neT (a := 4) h4 (by decide); omega) (by decide) ?_
    refine qb_iconst hX 38 (-1) rfl (by decide) ?_
    exact qb_iret hX 39 rfl hR (fun _ h => h)
  ·
    refine qb_iconst hX 6 (-1) rfl (by decide) ?_
    exact qb_iret hX 7 rfl hR (fun _ h => h)
theorem jm_Model_section {l : Launch} {G : qm_G} (hG : qm_GI G) (this : Nat) (p1 : Int32) (p2 : Int32) (hthis : (qm_kd this).1 = 19) : qm_MI l G jy_Model_section prog_11_method_51_code 3 (some .int) 4 90 [.ref (G.1 this), .int p1, .int p2] (jf_Model_section this p1 p2) :=
  qm_metI (by decide +kernel) jd_Model_section (fun v hv => by simp only [List.mem_cons, List.not_mem_nil, or_false] at hv; rcases hv with rfl | rfl | rfl <;> rfl) (by exact Nat.le_of_ble_eq_true rfl) hG rfl (fun X hl hg hX r0 σ0 hR => by subst hl; subst hg; exact jb_Model_section hX hR this p1 p2 hthis)
def jl_Model_fits : List qm_I := [(0, .aload_n 0, 1, 1), (1, .invokevirtual 245, 3, 4), (4, .aload_n 0, 1, 5), (5, .iload_n 1, 1, 6), (6, .invokevirtual 284, 3, 9), (9, .ifCond .eq 15, 3, 12), (12, .iload_n 2, 1, 13), (13, .i2l, 1, 14), (14, .lconst 0, 1, 15), (15, .ldc2_w 290, 3, 18), (18, .invokestatic 129, 3, 21), (21, .ifCond .ne 5, 3, 24), (24, .iconst (-1), 1, 25), (25, .ireturn, 1, 26), (26, .aload_n 0, 1, 27), (27, .iload_n 1, 1, 28), (28, .aload_n 0, 1, 29), (29, .getfield 47, 3, 32), (32, .iload_n 1, 1, 33), (33, .iaload, 1, 34), (34, .iconst 0, 1, 35), (35, .iload_n 2, 1, 36), (36, .invokevirtual 194, 3, 39), (39, .ifCond .eq 7, 3, 42), (42, .iconst 1, 1, 43), (43, .goto 4, 3, 46), (46, .iconst 0, 1, 47), (47, .ireturn, 1, 48)]
theorem jd_Model_fits : qm_D prog_11_method_52_code jl_Model_fits := qm_D_of (by decide +kernel)
noncomputable def jf_Model_fits (this : Nat) (p1 : Int32) (p2 : Int32) : qm_M Int32 :=
  mB (jf_Model_lays this) fun _ =>
  mB (jf_Model_isSection this p1) fun x1 =>
  if x1 = 0 then
    mP (-1)
  else
    mB (jf_Model_in (Int32.toInt64 p2) (0 : Int64) (2000 : Int64)) fun x2 =>
    if ¬ x2 = 0 then
      mB (mLd (qm_rf this 14) p1) fun x3 =>
      mB (jf_Model_fitsFrom this p1 x3 0 p2) fun x4 =>
      if x4 = 0 then
        mP 0
      else
        mP 1
    else
      mP (-1)
set_option maxRecDepth 20000 in
set_option maxHeartbeats 4000000 in
theorem jb_Model_fits {X : qm_X} (hX : qm_ok X qr_Model prog_11_method_52_code 3 6 152 jl_Model_fits) {r0 : Int32} {σ0 : qm_Mem} (hR : qm_RI X r0 σ0 .int) (this : Nat) (p1 : Int32) (p2 : Int32) (hthis : (qm_kd this).1 = 19) : qm_B X (jf_Model_fits this p1 p2) 0 [some (.ref (qx_ad X this)), some (.int p1), some (.int p2)] [] (fun r σ1 => r = r0 ∧ σ1 = σ0) := by
  unfold jf_Model_fits
  refine qb_aload_n hX 0 rfl rfl ?_
  refine qb_callV hX 1 rfl cv_Model_245 (jm_Model_lays (qk_GI hX) this  hthis ) (ci := 9) hthis ⟨rfl, rfl, rfl, by decide, by decide⟩ rfl (by exact Nat.le_of_ble_eq_true rfl) ?_
  refine qb_aload_n hX 2 rfl rfl ?_
  refine qb_iload_n hX 3 rfl rfl ?_
  refine qb_callI hX 4 rfl cv_Model_284 (jm_Model_isSection (qk_GI hX) this p1 hthis ) (ci := 9) hthis ⟨rfl, rfl, rfl, by decide, by decide⟩ rfl (by exact Nat.le_of_ble_eq_true rfl) (fun x1 => ?_)
  refine qb_ifeq hX 5 24 rfl (by decide) ?_ ?_
  ·
    refine qb_iconst hX 12 (-1) rfl (by decide) ?_
    exact qb_iret hX 13 rfl hR (fun _ h => h)
  ·
    refine qb_iload_n hX 6 rfl rfl ?_
    refine qb_i2l hX 7 rfl ?_
    refine qb_lconst hX 8 0 rfl (by decide) ?_
    refine qb_ldc2w hX 9 2000 rfl kl_Model_290 ?_
    refine qb_calSI hX 10 rfl cv_Model_129 (jm_Model_in (qk_GI hX) (Int32.toInt64 p2) (0 : Int64) (2000 : Int64) ) ⟨rfl, by decide, by decide⟩ rfl (by exact Nat.le_of_ble_eq_true rfl) (fun x2 => ?_)
    refine qb_ifne hX 11 26 rfl (by decide) ?_ ?_
    ·
      refine qb_aload_n hX 14 rfl rfl ?_
      refine qb_iload_n hX 15 rfl rfl ?_
      refine qb_aload_n hX 16 rfl rfl ?_
      refine qb_getR hX 17 rfl fl_Model_47 hthis rfl ?_
      refine qb_iload_n hX 18 rfl rfl ?_
      refine qb_iald hX 19 rfl (kf_Model_14 hthis) (fun x3 => ?_)
      refine qb_iconst hX 20 0 rfl (by decide) ?_
      refine qb_iload_n hX 21 rfl rfl ?_
      refine qb_callI hX 22 rfl cv_Model_194 (jm_Model_fitsFrom (qk_GI hX) this p1 x3 0 p2 hthis ) (ci := 9) hthis ⟨rfl, rfl, rfl, by decide, by decide⟩ rfl (by exact Nat.le_of_ble_eq_true rfl) (fun x4 => ?_)
      refine qb_ifeq hX 23 46 rfl (by decide) ?_ ?_
      ·
        refine qb_iconst hX 26 0 rfl (by decide) ?_
        exact qb_iret hX 27 rfl hR (fun _ h => h)
      ·
        refine qb_iconst hX 24 1 rfl (by decide) ?_
        refine qb_goto hX 25 (tgt := 47) rfl (by decide) ?_
        exact qb_iret hX 27 rfl hR (fun _ h => h)
    ·
      refine qb_iconst hX 12 (-1) rfl (by decide) ?_
      exact qb_iret hX 13 rfl hR (fun _ h => h)
theorem jm_Model_fits {l : Launch} {G : qm_G} (hG : qm_GI G) (this : Nat) (p1 : Int32) (p2 : Int32) (hthis : (qm_kd this).1 = 19) : qm_MI l G jy_Model_fits prog_11_method_52_code 3 (some .int) 6 152 [.ref (G.1 this), .int p1, .int p2] (jf_Model_fits this p1 p2) :=
  qm_metI (by decide +kernel) jd_Model_fits (fun v hv => by simp only [List.mem_cons, List.not_mem_nil, or_false] at hv; rcases hv with rfl | rfl | rfl <;> rfl) (by exact Nat.le_of_ble_eq_true rfl) hG rfl (fun X hl hg hX r0 σ0 hR => by subst hl; subst hg; exact jb_Model_fits hX hR this p1 p2 hthis)
def jl_Model_leastOf : List qm_I := [(0, .aload_n 0, 1, 1), (1, .getfield 47, 3, 4), (4, .iload_n 1, 1, 5), (5, .iaload, 1, 6), (6, .istore_n 2, 1, 7), (7, .aload_n 0, 1, 8), (8, .iload_n 1, 1, 9), (9, .iload_n 2, 1, 10), (10, .iconst 0, 1, 11), (11, .sipush 2000, 3, 14), (14, .invokevirtual 194, 3, 17), (17, .ifCond .eq 16, 3, 20), (20, .aload_n 0, 1, 21), (21, .iload_n 1, 1, 22), (22, .iload_n 2, 1, 23), (23, .iconst 0, 1, 24), (24, .sipush 2000, 3, 27), (27, .invokevirtual 222, 3, 30), (30, .goto 5, 3, 33), (33, .bipush (-2), 2, 35), (35, .ireturn, 1, 36)]
theorem jd_Model_leastOf : qm_D prog_11_method_53_code jl_Model_leastOf := qm_D_of (by decide +kernel)
noncomputable def jf_Model_leastOf (this : Nat) (p1 : Int32) : qm_M Int32 :=
  mB (mLd (qm_rf this 14) p1) fun x1 =>
  mB (jf_Model_fitsFrom this p1 x1 0 2000) fun x2 =>
  if x2 = 0 then
    mP (-2)
  else
    mB (jf_Model_leastFrom this p1 x1 0 2000) fun x3 =>
    mP x3
set_option maxRecDepth 20000 in
set_option maxHeartbeats 4000000 in
theorem jb_Model_leastOf {X : qm_X} (hX : qm_ok X qr_Model prog_11_method_53_code 3 7 179 jl_Model_leastOf) {r0 : Int32} {σ0 : qm_Mem} (hR : qm_RI X r0 σ0 .int) (this : Nat) (p1 : Int32) (hthis : (qm_kd this).1 = 19) : qm_B X (jf_Model_leastOf this p1) 0 [some (.ref (qx_ad X this)), some (.int p1), none] [] (fun r σ1 => r = r0 ∧ σ1 = σ0) := by
  unfold jf_Model_leastOf
  refine qb_aload_n hX 0 rfl rfl ?_
  refine qb_getR hX 1 rfl fl_Model_47 hthis rfl ?_
  refine qb_iload_n hX 2 rfl rfl ?_
  refine qb_iald hX 3 rfl (kf_Model_14 hthis) (fun x1 => ?_)
  refine qb_istore_n hX 4 ([some (.ref (qx_ad X this)), some (.int p1), some (.int x1)]) rfl (by decide) rfl ?_
  refine qb_aload_n hX 5 rfl rfl ?_
  refine qb_iload_n hX 6 rfl rfl ?_
  refine qb_iload_n hX 7 rfl rfl ?_
  refine qb_iconst hX 8 0 rfl (by decide) ?_
  refine qb_sipush hX 9 2000 rfl (by decide) ?_
  refine qb_callI hX 10 rfl cv_Model_194 (jm_Model_fitsFrom (qk_GI hX) this p1 x1 0 2000 hthis ) (ci := 9) hthis ⟨rfl, rfl, rfl, by decide, by decide⟩ rfl (by exact Nat.le_of_ble_eq_true rfl) (fun x2 => ?_)
  refine qb_ifeq hX 11 33 rfl (by decide) ?_ ?_
  ·
    refine qb_bipush hX 19 (-2) rfl (by decide) ?_
    exact qb_iret hX 20 rfl hR (fun _ h => h)
  ·
    refine qb_aload_n hX 12 rfl rfl ?_
    refine qb_iload_n hX 13 rfl rfl ?_
    refine qb_iload_n hX 14 rfl rfl ?_
    refine qb_iconst hX 15 0 rfl (by decide) ?_
    refine qb_sipush hX 16 2000 rfl (by decide) ?_
    refine qb_callI hX 17 rfl cv_Model_222 (jm_Model_leastFrom (qk_GI hX) this p1 x1 0 2000 hthis ) (ci := 9) hthis ⟨rfl, rfl, rfl, by decide, by decide⟩ rfl (by exact Nat.le_of_ble_eq_true rfl) (fun x3 => ?_)
    refine qb_goto hX 18 (tgt := 35) rfl (by decide) ?_
    exact qb_iret hX 20 rfl hR (fun _ h => h)
theorem jm_Model_leastOf {l : Launch} {G : qm_G} (hG : qm_GI G) (this : Nat) (p1 : Int32) (hthis : (qm_kd this).1 = 19) : qm_MI l G jy_Model_leastOf prog_11_method_53_code 3 (some .int) 7 179 [.ref (G.1 this), .int p1] (jf_Model_leastOf this p1) :=
  qm_metI (by decide +kernel) jd_Model_leastOf (fun v hv => by simp only [List.mem_cons, List.not_mem_nil, or_false] at hv; rcases hv with rfl | rfl <;> rfl) (by exact Nat.le_of_ble_eq_true rfl) hG rfl (fun X hl hg hX r0 σ0 hR => by subst hl; subst hg; exact jb_Model_leastOf hX hR this p1 hthis)
def jl_Model_least : List qm_I := [(0, .aload_n 0, 1, 1), (1, .invokevirtual 245, 3, 4), (4, .aload_n 0, 1, 5), (5, .iload_n 1, 1, 6), (6, .invokevirtual 284, 3, 9), (9, .ifCond .eq 11, 3, 12), (12, .aload_n 0, 1, 13), (13, .iload_n 1, 1, 14), (14, .invokevirtual 292, 3, 17), (17, .goto 4, 3, 20), (20, .iconst (-1), 1, 21), (21, .ireturn, 1, 22)]
theorem jd_Model_least : qm_D prog_11_method_54_code jl_Model_least := qm_D_of (by decide +kernel)
noncomputable def jf_Model_least (this : Nat) (p1 : Int32) : qm_M Int32 :=
  mB (jf_Model_lays this) fun _ =>
  mB (jf_Model_isSection this p1) fun x1 =>
  if x1 = 0 then
    mP (-1)
  else
    mB (jf_Model_leastOf this p1) fun x2 =>
    mP x2
set_option maxRecDepth 20000 in
set_option maxHeartbeats 4000000 in
theorem jb_Model_least {X : qm_X} (hX : qm_ok X qr_Model prog_11_method_54_code 2 8 201 jl_Model_least) {r0 : Int32} {σ0 : qm_Mem} (hR : qm_RI X r0 σ0 .int) (this : Nat) (p1 : Int32) (hthis : (qm_kd this).1 = 19) : qm_B X (jf_Model_least this p1) 0 [some (.ref (qx_ad X this)), some (.int p1)] [] (fun r σ1 => r = r0 ∧ σ1 = σ0) := by
  unfold jf_Model_least
  refine qb_aload_n hX 0 rfl rfl ?_
  refine qb_callV hX 1 rfl cv_Model_245 (jm_Model_lays (qk_GI hX) this  hthis ) (ci := 9) hthis ⟨rfl, rfl, rfl, by decide, by decide⟩ rfl (by exact Nat.le_of_ble_eq_true rfl) ?_
  refine qb_aload_n hX 2 rfl rfl ?_
  refine qb_iload_n hX 3 rfl rfl ?_
  refine qb_callI hX 4 rfl cv_Model_284 (jm_Model_isSection (qk_GI hX) this p1 hthis ) (ci := 9) hthis ⟨rfl, rfl, rfl, by decide, by decide⟩ rfl (by exact Nat.le_of_ble_eq_true rfl) (fun x1 => ?_)
  refine qb_ifeq hX 5 20 rfl (by decide) ?_ ?_
  ·
    refine qb_iconst hX 10 (-1) rfl (by decide) ?_
    exact qb_iret hX 11 rfl hR (fun _ h => h)
  ·
    refine qb_aload_n hX 6 rfl rfl ?_
    refine qb_iload_n hX 7 rfl rfl ?_
    refine qb_callI hX 8 rfl cv_Model_292 (jm_Model_leastOf (qk_GI hX) this p1 hthis ) (ci := 9) hthis ⟨rfl, rfl, rfl, by decide, by decide⟩ rfl (by exact Nat.le_of_ble_eq_true rfl) (fun x2 => ?_)
    refine qb_goto hX 9 (tgt := 21) rfl (by decide) ?_
    exact qb_iret hX 11 rfl hR (fun _ h => h)
theorem jm_Model_least {l : Launch} {G : qm_G} (hG : qm_GI G) (this : Nat) (p1 : Int32) (hthis : (qm_kd this).1 = 19) : qm_MI l G jy_Model_least prog_11_method_54_code 2 (some .int) 8 201 [.ref (G.1 this), .int p1] (jf_Model_least this p1) :=
  qm_metI (by decide +kernel) jd_Model_least (fun v hv => by simp only [List.mem_cons, List.not_mem_nil, or_false] at hv; rcases hv with rfl | rfl <;> rfl) (by exact Nat.le_of_ble_eq_true rfl) hG rfl (fun X hl hg hX r0 σ0 hR => by subst hl; subst hg; exact jb_Model_least hX hR this p1 hthis)
def jl_Model_goesOn : List qm_I := [(0, .iload_n 2, 1, 1), (1, .istore 4, 2, 3), (3, .iload 4, 2, 5), (5, .aload_n 0, 1, 6), (6, .iload_n 1, 1, 7), (7, .invokevirtual 179, 3, 10), (10, .if_icmp .gt 107, 3, 13), (13, .iload 4, 2, 15), (15, .iload_n 2, 1, 16), (16, .if_icmp .le 13, 3, 19), (19, .aload_n 0, 1, 20), (20, .iload_n 1, 1, 21), (21, .iload 4, 2, 23), (23, .invokevirtual 182, 3, 26), (26, .ifCond .eq 85, 3, 29), (29, .aload_n 0, 1, 30), (30, .iload_n 2, 1, 31), (31, .iload 4, 2, 33), (33, .aload_n 0, 1, 34), (34, .getfield 104, 3, 37), (37, .iload_n 2, 1, 38), (38, .iaload, 1, 39), (39, .iload_n 3, 1, 40), (40, .invokevirtual 235, 3, 43), (43, .ifCond .ne 6, 3, 46), (46, .goto 65, 3, 49), (49, .aload_n 0, 1, 50), (50, .getfield 104, 3, 53), (53, .iload_n 2, 1, 54), (54, .iaload, 1, 55), (55, .aload_n 0, 1, 56), (56, .iload_n 2, 1, 57), (57, .iload 4, 2, 59), (59, .invokevirtual 172, 3, 62), (62, .iadd, 1, 63), (63, .aload_n 0, 1, 64), (64, .iload_n 2, 1, 65), (65, .iload 4, 2, 67), (67, .aload_n 0, 1, 68), (68, .getfield 104, 3, 71), (71, .iload_n 2, 1, 72), (72, .iaload, 1, 73), (73, .iload_n 3, 1, 74), (74, .invokevirtual 213, 3, 77), (77, .isub, 1, 78), (78, .istore 5, 2, 80), (80, .aload_n 0, 1, 81), (81, .getfield 107, 3, 84), (84, .iload 4, 2, 86), (86, .iload 5, 2, 88), (88, .aload_n 0, 1, 89), (89, .getfield 107, 3, 92), (92, .iload 4, 2, 94), (94, .iaload, 1, 95), (95, .if_icmp .ge 8, 3, 98), (98, .iload 5, 2, 100), (100, .goto 10, 3, 103), (103, .aload_n 0, 1, 104), (104, .getfield 107, 3, 107), (107, .iload 4, 2, 109), (109, .iaload, 1, 110), (110, .iastore, 1, 111), (111, .iinc 4 1, 3, 114), (114, .goto (-111), 3, 117), (117, .return_, 1, 118)]
theorem jd_Model_goesOn : qm_D prog_11_method_56_code jl_Model_goesOn := qm_D_of (by decide +kernel)
noncomputable def jf_Model_goesOn (this : Nat) (p1 : Int32) (p2 : Int32) (p3 : Int32) : qm_M Unit :=
  mB (α := Unit) (
    mW (S := Int32) (α := Unit) (fun s2 =>
      mB (jf_Model_endOf this p1) fun x3 =>
      if x3 < s2 then
        mP (Sum.inr ())
      else
        mB (α := Unit) (
          mB (α := (Unit ⊕ Unit)) (
            if s2 ≤ p2 then
              mP (Sum.inl ())
            else
              mB (jf_Model_isEnd this p1 s2) fun x6 =>
              if x6 = 0 then
                mP (Sum.inr ())
              else
                mP (Sum.inl ())) (Sum.elim (fun s5 =>
            mB (mLd (qm_rf this 40) p2) fun x7 =>
            mB (jf_Model_canEnd this p2 s2 x7 p3) fun x8 =>
            if ¬ x8 = 0 then
              mB (mLd (qm_rf this 40) p2) fun x9 =>
              mB (jf_Model_ownOf this p2 s2) fun x10 =>
              mB (mLd (qm_rf this 40) p2) fun x11 =>
              mB (jf_Model_standsOf this p2 s2 x11 p3) fun x12 =>
              mB (mP ((x9 + x10) - x12)) fun x13 =>
              mB (mLd (qm_rf this 41) s2) fun x14 =>
              mB (α := Int32) (
                if x14 ≤ x13 then
                  mB (mLd (qm_rf this 41) s2) fun x16 =>
                  mP x16
                else
                  mP x13) fun s15 =>
              mB (mSt (qm_rf this 41) s2 s15) fun _ =>
              mP ()
            else
              mP ()) mP)) fun s4 =>
        mB (mP (s2 + 1)) fun x17 =>
        mP (Sum.inl x17)) p2) fun s1 =>
  mP ()
set_option maxRecDepth 20000 in
set_option maxHeartbeats 4000000 in
theorem jb_Model_goesOn {X : qm_X} (hX : qm_ok X qr_Model prog_11_method_56_code 6 4 95 jl_Model_goesOn) {σ0 : qm_Mem} (hR : qm_RV X σ0) (this : Nat) (p1 : Int32) (p2 : Int32) (p3 : Int32) (hthis : (qm_kd this).1 = 19) : qm_B X (jf_Model_goesOn this p1 p2 p3) 0 [some (.ref (qx_ad X this)), some (.int p1), some (.int p2), some (.int p3), none, none] [] (fun _ σ1 => σ1 = σ0) := by
  unfold jf_Model_goesOn
  refine qb_iload_n hX 0 rfl rfl ?_
  refine qb_istore hX 1 ([some (.ref (qx_ad X this)), some (.int p1), some (.int p2), some (.int p3), some (.int p2), none]) rfl (by decide) rfl ?_
  refine qb_join 117 (fun s1 => [none, none, none, none, none, none]) (fun s1 => []) ?_ ?_
  ·
    refine qb_loopw (p2) (fun s2 => [some (.ref (qx_ad X this)), some (.int p1), some (.int p2), some (.int p3), some (.int s2), none]) (qw_s (qw_s (qw_s (qw_s (qw_s (qw_n (qw_0))))))) (fun s2 => ?_)
    refine qb_iload hX 2 rfl rfl ?_
    refine qb_aload_n hX 3 rfl rfl ?_
    refine qb_iload_n hX 4 rfl rfl ?_
    refine qb_callI hX 5 rfl cv_Model_179 (jm_Model_endOf (qk_GI hX) this p1 hthis ) (ci := 9) hthis ⟨rfl, rfl, rfl, by decide, by decide⟩ rfl (by exact Nat.le_of_ble_eq_true rfl) (fun x3 => ?_)
    refine qb_icgt hX 6 117 rfl (by decide) ?_ ?_
    ·
      exact qb_exit (fun σ h => qj_wk (ρ' := [none, none, none, none, none, none]) (qw_n (qw_n (qw_n (qw_n (qw_n (qw_n (qw_0))))))) h)
    ·
      refine qb_iload hX 7 rfl rfl ?_
      refine qb_iload_n hX 8 rfl rfl ?_
      refine qb_join 111 (fun s4 => [some (.ref (qx_ad X this)), some (.int p1), some (.int p2), some (.int p3), some (.int s2), none]) (fun s4 => []) ?_ ?_
      ·
        refine qb_join2 29 (fun s5 => [some (.ref (qx_ad X this)), some (.int p1), some (.int p2), some (.int p3), some (.int s2), none]) (fun s5 => []) ?_ ?_
        ·
          refine qb_icle hX 9 29 rfl (by decide) ?_ ?_
          ·
            exact qb_exit (fun σ h => qj_wk (ρ' := [some (.ref (qx_ad X this)), some (.int p1), some (.int p2), some (.int p3), some (.int s2), none]) (qw_s (qw_s (qw_s (qw_s (qw_s (qw_n (qw_0))))))) h)
          ·
            refine qb_aload_n hX 10 rfl rfl ?_
            refine qb_iload_n hX 11 rfl rfl ?_
            refine qb_iload hX 12 rfl rfl ?_
            refine qb_callI hX 13 rfl cv_Model_182 (jm_Model_isEnd (qk_GI hX) this p1 s2 hthis ) (ci := 9) hthis ⟨rfl, rfl, rfl, by decide, by decide⟩ rfl (by exact Nat.le_of_ble_eq_true rfl) (fun x6 => ?_)
            refine qb_ifeq hX 14 111 rfl (by decide) ?_ ?_
            ·
              exact qb_exit (fun σ h => qj_wk (ρ' := [some (.ref (qx_ad X this)), some (.int p1), some (.int p2), some (.int p3), some (.int s2), none]) (qw_s (qw_s (qw_s (qw_s (qw_s (qw_n (qw_0))))))) h)
            ·
              exact qb_exit (fun σ h => qj_wk (ρ' := [some (.ref (qx_ad X this)), some (.int p1), some (.int p2), some (.int p3), some (.int s2), none]) (qw_s (qw_s (qw_s (qw_s (qw_s (qw_n (qw_0))))))) h)
        · intro s5
          refine qb_aload_n hX 15 rfl rfl ?_
          refine qb_iload_n hX 16 rfl rfl ?_
          refine qb_iload hX 17 rfl rfl ?_
          refine qb_aload_n hX 18 rfl rfl ?_
          refine qb_getR hX 19 rfl fl_Model_104 hthis rfl ?_
          refine qb_iload_n hX 20 rfl rfl ?_
          refine qb_iald hX 21 rfl (kf_Model_40 hthis) (fun x7 => ?_)
          refine qb_iload_n hX 22 rfl rfl ?_
          refine qb_callI hX 23 rfl cv_Model_235 (jm_Model_canEnd (qk_GI hX) this p2 s2 x7 p3 hthis ) (ci := 9) hthis ⟨rfl, rfl, rfl, by decide, by decide⟩ rfl (by exact Nat.le_of_ble_eq_true rfl) (fun x8 => ?_)
          refine qb_ifne hX 24 49 rfl (by decide) ?_ ?_
          ·
            refine qb_aload_n hX 26 rfl rfl ?_
            refine qb_getR hX 27 rfl fl_Model_104 hthis rfl ?_
            refine qb_iload_n hX 28 rfl rfl ?_
            refine qb_iald hX 29 rfl (kf_Model_40 hthis) (fun x9 => ?_)
            refine qb_aload_n hX 30 rfl rfl ?_
            refine qb_iload_n hX 31 rfl rfl ?_
            refine qb_iload hX 32 rfl rfl ?_
            refine qb_callI hX 33 rfl cv_Model_172 (jm_Model_ownOf (qk_GI hX) this p2 s2 hthis ) (ci := 9) hthis ⟨rfl, rfl, rfl, by decide, by decide⟩ rfl (by exact Nat.le_of_ble_eq_true rfl) (fun x10 => ?_)
            refine qb_iadd hX 34 rfl ?_
            refine qb_aload_n hX 35 rfl rfl ?_
            refine qb_iload_n hX 36 rfl rfl ?_
            refine qb_iload hX 37 rfl rfl ?_
            refine qb_aload_n hX 38 rfl rfl ?_
            refine qb_getR hX 39 rfl fl_Model_104 hthis rfl ?_
            refine qb_iload_n hX 40 rfl rfl ?_
            refine qb_iald hX 41 rfl (kf_Model_40 hthis) (fun x11 => ?_)
            refine qb_iload_n hX 42 rfl rfl ?_
            refine qb_callI hX 43 rfl cv_Model_213 (jm_Model_standsOf (qk_GI hX) this p2 s2 x11 p3 hthis ) (ci := 9) hthis ⟨rfl, rfl, rfl, by decide, by decide⟩ rfl (by exact Nat.le_of_ble_eq_true rfl) (fun x12 => ?_)
            refine qb_isub hX 44 rfl ?_
            refine qb_istoreL hX 45 (fun x13 => [some (.ref (qx_ad X this)), some (.int p1), some (.int p2), some (.int p3), some (.int s2), some (.int x13)]) rfl (by decide) (fun _ => rfl) (fun x13 => ?_)
            refine qb_aload_n hX 46 rfl rfl ?_
            refine qb_getR hX 47 rfl fl_Model_107 hthis rfl ?_
            refine qb_iload hX 48 rfl rfl ?_
            refine qb_iload hX 49 rfl rfl ?_
            refine qb_aload_n hX 50 rfl rfl ?_
            refine qb_getR hX 51 rfl fl_Model_107 hthis rfl ?_
            refine qb_iload hX 52 rfl rfl ?_
            refine qb_iald hX 53 rfl (kf_Model_41 hthis) (fun x14 => ?_)
            refine qb_join 110 (fun s15 => [some (.ref (qx_ad X this)), some (.int p1), some (.int p2), some (.int p3), some (.int s2), none]) (fun s15 => [.int s15, .int s2, .ref (qx_ad X (qm_rf this 41))]) ?_ ?_
            ·
              refine qb_icge hX 54 103 rfl (by decide) ?_ ?_
              ·
                refine qb_aload_n hX 57 rfl rfl ?_
                refine qb_getR hX 58 rfl fl_Model_107 hthis rfl ?_
                refine qb_iload hX 59 rfl rfl ?_
                refine qb_iald hX 60 rfl (kf_Model_41 hthis) (fun x16 => ?_)
                exact qb_exit (fun σ h => qj_wk (ρ' := [some (.ref (qx_ad X this)), some (.int p1), some (.int p2), some (.int p3), some (.int s2), none]) (qw_s (qw_s (qw_s (qw_s (qw_s (qw_n (qw_0))))))) h)
              ·
                refine qb_iload hX 55 rfl rfl ?_
                exact qb_exit (fun σ h => qj_goto hX 56 rfl (by decide) (qj_wk (ρ' := [some (.ref (qx_ad X this)), some (.int p1), some (.int p2), some (.int p3), some (.int s2), none]) (qw_s (qw_s (qw_s (qw_s (qw_s (qw_n (qw_0))))))) h))
            · intro s15
              refine qb_iast hX 61 rfl (kf_Model_41 hthis) ?_
              exact qb_exit (fun σ h => qj_wk (ρ' := [some (.ref (qx_ad X this)), some (.int p1), some (.int p2), some (.int p3), some (.int s2), none]) (qw_s (qw_s (qw_s (qw_s (qw_s (qw_n (qw_0))))))) h)
          ·
            exact qb_exit (fun σ h => qj_goto hX 25 rfl (by decide) (qj_wk (ρ' := [some (.ref (qx_ad X this)), some (.int p1), some (.int p2), some (.int p3), some (.int s2), none]) (qw_s (qw_s (qw_s (qw_s (qw_s (qw_n (qw_0))))))) h))
      · intro s4
        refine qb_iinc hX 62 1 (fun x17 => [some (.ref (qx_ad X this)), some (.int p1), some (.int p2), some (.int p3), some (.int x17), none]) rfl (by decide) (by decide) rfl (fun _ => rfl) (fun x17 => ?_)
        exact qb_exit (fun σ h => qj_goto hX 63 rfl (by decide) (qj_wk (ρ' := [some (.ref (qx_ad X this)), some (.int p1), some (.int p2), some (.int p3), some (.int x17), none]) (qw_s (qw_s (qw_s (qw_s (qw_s (qw_n (qw_0))))))) h))
  · intro s1
    exact qb_vret hX 64 rfl hR (fun _ h => h)
theorem jm_Model_goesOn {l : Launch} {G : qm_G} (hG : qm_GI G) (this : Nat) (p1 : Int32) (p2 : Int32) (p3 : Int32) (hthis : (qm_kd this).1 = 19) : qm_MV l G jy_Model_goesOn prog_11_method_56_code 6 4 95 [.ref (G.1 this), .int p1, .int p2, .int p3] (jf_Model_goesOn this p1 p2 p3) :=
  qm_metV (by decide +kernel) jd_Model_goesOn (fun v hv => by simp only [List.mem_cons, List.not_mem_nil, or_false] at hv; rcases hv with rfl | rfl | rfl | rfl <;> rfl) (by exact Nat.le_of_ble_eq_true rfl) hG (fun X hl hg hX σ0 hR => by subst hl; subst hg; exact jb_Model_goesOn hX hR this p1 p2 p3 hthis)
def jl_Model_reach : List qm_I := [(0, .aload_n 0, 1, 1), (1, .invokevirtual 245, 3, 4), (4, .aload_n 0, 1, 5), (5, .iload_n 1, 1, 6), (6, .invokevirtual 284, 3, 9), (9, .ifCond .eq 27, 3, 12), (12, .iload_n 2, 1, 13), (13, .i2l, 1, 14), (14, .lconst 1, 1, 15), (15, .ldc2_w 295, 3, 18), (18, .invokestatic 129, 3, 21), (21, .ifCond .eq 15, 3, 24), (24, .iload_n 3, 1, 25), (25, .i2l, 1, 26), (26, .lconst 0, 1, 27), (27, .ldc2_w 290, 3, 30), (30, .invokestatic 129, 3, 33), (33, .ifCond .ne 5, 3, 36), (36, .iconst (-1), 1, 37), (37, .ireturn, 1, 38), (38, .aload_n 0, 1, 39), (39, .getfield 47, 3, 42), (42, .iload_n 1, 1, 43), (43, .iaload, 1, 44), (44, .istore 4, 2, 46), (46, .aload_n 0, 1, 47), (47, .iload_n 1, 1, 48), (48, .invokevirtual 179, 3, 51), (51, .istore 5, 2, 53), (53, .iload 4, 2, 55), (55, .istore 6, 2, 57), (57, .iload 6, 2, 59), (59, .iload 5, 2, 61), (61, .if_icmp .gt 30, 3, 64), (64, .aload_n 0, 1, 65), (65, .getfield 104, 3, 68), (68, .iload 6, 2, 70), (70, .iload 6, 2, 72), (72, .iload 4, 2, 74), (74, .if_icmp .ne 7, 3, 77), (77, .iconst 0, 1, 78), (78, .goto 6, 3, 81), (81, .ldc_w 297, 3, 84), (84, .iastore, 1, 85), (85, .iinc 6 1, 3, 88), (88, .goto (-31), 3, 91), (91, .iconst 0, 1, 92), (92, .istore 6, 2, 94), (94, .iload 6, 2, 96), (96, .iload_n 2, 1, 97), (97, .if_icmp .ge 105, 3, 100), (100, .iload 4, 2, 102), (102, .istore 7, 2, 104), (104, .iload 7, 2, 106), (106, .iload 5, 2, 108), (108, .if_icmp .gt 19, 3, 111), (111, .aload_n 0, 1, 112), (112, .getfield 107, 3, 115), (115, .iload 7, 2, 117), (117, .ldc_w 297, 3, 120), (120, .iastore, 1, 121), (121, .iinc 7 1, 3, 124), (124, .goto (-20), 3, 127), (127, .iload 4, 2, 129), (129, .istore 7, 2, 131), (131, .iload 7, 2, 133), (133, .iload 5, 2, 135), (135, .if_icmp .gt 30, 3, 138), (138, .aload_n 0, 1, 139), (139, .getfield 104, 3, 142), (142, .iload 7, 2, 144), (144, .iaload, 1, 145), (145, .ldc_w 297, 3, 148), (148, .if_icmp .ge 11, 3, 151), (151, .aload_n 0, 1, 152), (152, .iload_n 1, 1, 153), (153, .iload 7, 2, 155), (155, .iload_n 3, 1, 156), (156, .invokevirtual 298, 3, 159), (159, .iinc 7 1, 3, 162), (162, .goto (-31), 3, 165), (165, .iload 4, 2, 167), (167, .istore 7, 2, 169), (169, .iload 7, 2, 171), (171, .iload 5, 2, 173), (173, .if_icmp .gt 23, 3, 176), (176, .aload_n 0, 1, 177), (177, .getfield 104, 3, 180), (180, .iload 7, 2, 182), (182, .aload_n 0, 1, 183), (183, .getfield 107, 3, 186), (186, .iload 7, 2, 188), (188, .iaload, 1, 189), (189, .iastore, 1, 190), (190, .iinc 7 1, 3, 193), (193, .goto (-24), 3, 196), (196, .iinc 6 1, 3, 199), (199, .goto (-105), 3, 202), (202, .iload 5, 2, 204), (204, .istore 6, 2, 206), (206, .iload 6, 2, 208), (208, .iload 4, 2, 210), (210, .if_icmp .lt 25, 3, 213), (213, .aload_n 0, 1, 214), (214, .getfield 104, 3, 217), (217, .iload 6, 2, 219), (219, .iaload, 1, 220), (220, .ldc_w 297, 3, 223), (223, .if_icmp .ge 6, 3, 226), (226, .iload 6, 2, 228), (228, .ireturn, 1, 229), (229, .iinc 6 (-1), 3, 232), (232, .goto (-26), 3, 235), (235, .bipush (-2), 2, 237), (237, .ireturn, 1, 238)]
theorem jd_Model_reach : qm_D prog_11_method_55_code jl_Model_reach := qm_D_of (by decide +kernel)
noncomputable def jf_Model_reach (this : Nat) (p1 : Int32) (p2 : Int32) (p3 : Int32) : qm_M Int32 :=
  mB (jf_Model_lays this) fun _ =>
  mB (jf_Model_isSection this p1) fun x1 =>
  if x1 = 0 then
    mP (-1)
  else
    mB (jf_Model_in (Int32.toInt64 p2) (1 : Int64) (5 : Int64)) fun x2 =>
    if x2 = 0 then
      mP (-1)
    else
      mB (jf_Model_in (Int32.toInt64 p3) (0 : Int64) (2000 : Int64)) fun x3 =>
      if ¬ x3 = 0 then
        mB (mLd (qm_rf this 14) p1) fun x4 =>
        mB (jf_Model_endOf this p1) fun x5 =>
        mB (α := Unit) (
          mW (S := Int32) (α := Unit) (fun s7 =>
            if x5 < s7 then
              mP (Sum.inr ())
            else
              mB (α := Int32) (
                if ¬ s7 = x4 then
                  mP 100000
                else
                  mP 0) fun s8 =>
              mB (mSt (qm_rf this 40) s7 s8) fun _ =>
              mB (mP (s7 + 1)) fun x9 =>
              mP (Sum.inl x9)) x4) fun s6 =>
        mB (α := Unit) (
          mW (S := Int32) (α := Unit) (fun s11 =>
            if p2 ≤ s11 then
              mP (Sum.inr ())
            else
              mB (α := Unit) (
                mW (S := Int32) (α := Unit) (fun s13 =>
                  if x5 < s13 then
                    mP (Sum.inr ())
                  else
                    mB (mSt (qm_rf this 41) s13 100000) fun _ =>
                    mB (mP (s13 + 1)) fun x14 =>
                    mP (Sum.inl x14)) x4) fun s12 =>
              mB (α := Unit) (
                mW (S := Int32) (α := Unit) (fun s16 =>
                  if x5 < s16 then
                    mP (Sum.inr ())
                  else
                    mB (mLd (qm_rf this 40) s16) fun x17 =>
                    mB (α := Unit) (
                      if 100000 ≤ x17 then
                        mP ()
                      else
                        mB (jf_Model_goesOn this p1 s16 p3) fun _ =>
                        mP ()) fun s18 =>
                    mB (mP (s16 + 1)) fun x19 =>
                    mP (Sum.inl x19)) x4) fun s15 =>
              mB (α := Unit) (
                mW (S := Int32) (α := Unit) (fun s21 =>
                  if x5 < s21 then
                    mP (Sum.inr ())
                  else
                    mB (mLd (qm_rf this 41) s21) fun x22 =>
                    mB (mSt (qm_rf this 40) s21 x22) fun _ =>
                    mB (mP (s21 + 1)) fun x23 =>
                    mP (Sum.inl x23)) x4) fun s20 =>
              mB (mP (s11 + 1)) fun x24 =>
              mP (Sum.inl x24)) 0) fun s10 =>
        mB (α := (Unit ⊕ Int32)) (
          mW (S := Int32) (α := (Unit ⊕ Int32)) (fun s26 =>
            if s26 < x4 then
              mP (Sum.inr (Sum.inl ()))
            else
              mB (mLd (qm_rf this 40) s26) fun x27 =>
              if 100000 ≤ x27 then
                mB (mP (s26 + (-1))) fun x28 =>
                mP (Sum.inl x28)
              else
                mP (Sum.inr (Sum.inr s26))) x5) (Sum.elim (fun s25 =>
          mP (-2)) mP)
      else
        mP (-1)
set_option maxRecDepth 20000 in
set_option maxHeartbeats 4000000 in
theorem jb_Model_reach {X : qm_X} (hX : qm_ok X qr_Model prog_11_method_55_code 8 5 120 jl_Model_reach) {r0 : Int32} {σ0 : qm_Mem} (hR : qm_RI X r0 σ0 .int) (this : Nat) (p1 : Int32) (p2 : Int32) (p3 : Int32) (hthis : (qm_kd this).1 = 19) : qm_B X (jf_Model_reach this p1 p2 p3) 0 [some (.ref (qx_ad X this)), some (.int p1), some (.int p2), some (.int p3), none, none, none, none] [] (fun r σ1 => r = r0 ∧ σ1 = σ0) := by
  unfold jf_Model_reach
  refine qb_aload_n hX 0 rfl rfl ?_
  refine qb_callV hX 1 rfl cv_Model_245 (jm_Model_lays (qk_GI hX) this  hthis ) (ci := 9) hthis ⟨rfl, rfl, rfl, by decide, by decide⟩ rfl (by exact Nat.le_of_ble_eq_true rfl) ?_
  refine qb_aload_n hX 2 rfl rfl ?_
  refine qb_iload_n hX 3 rfl rfl ?_
  refine qb_callI hX 4 rfl cv_Model_284 (jm_Model_isSection (qk_GI hX) this p1 hthis ) (ci := 9) hthis ⟨rfl, rfl, rfl, by decide, by decide⟩ rfl (by exact Nat.le_of_ble_eq_true rfl) (fun x1 => ?_)
  refine qb_ifeq hX 5 36 rfl (by decide) ?_ ?_
  ·
    refine qb_iconst hX 18 (-1) rfl (by decide) ?_
    exact qb_iret hX 19 rfl hR (fun _ h => h)
  ·
    refine qb_iload_n hX 6 rfl rfl ?_
    refine qb_i2l hX 7 rfl ?_
    refine qb_lconst hX 8 1 rfl (by decide) ?_
    refine qb_ldc2w hX 9 5 rfl kl_Model_295 ?_
    refine qb_calSI hX 10 rfl cv_Model_129 (jm_Model_in (qk_GI hX) (Int32.toInt64 p2) (1 : Int64) (5 : Int64) ) ⟨rfl, by decide, by decide⟩ rfl (by exact Nat.le_of_ble_eq_true rfl) (fun x2 => ?_)
    refine qb_ifeq hX 11 36 rfl (by decide) ?_ ?_
    ·
      refine qb_iconst hX 18 (-1) rfl (by decide) ?_
      exact qb_iret hX 19 rfl hR (fun _ h => h)
    ·
      refine qb_iload_n hX 12 rfl rfl ?_
      refine qb_i2l hX 13 rfl ?_
      refine qb_lconst hX 14 0 rfl (by decide) ?_
      refine qb_ldc2w hX 15 2000 rfl kl_Model_290 ?_
      refine qb_calSI hX 16 rfl cv_Model_129 (jm_Model_in (qk_GI hX) (Int32.toInt64 p3) (0 : Int64) (2000 : Int64) ) ⟨rfl, by decide, by decide⟩ rfl (by exact Nat.le_of_ble_eq_true rfl) (fun x3 => ?_)
      refine qb_ifne hX 17 38 rfl (by decide) ?_ ?_
      ·
        refine qb_aload_n hX 20 rfl rfl ?_
        refine qb_getR hX 21 rfl fl_Model_47 hthis rfl ?_
        refine qb_iload_n hX 22 rfl rfl ?_
        refine qb_iald hX 23 rfl (kf_Model_14 hthis) (fun x4 => ?_)
        refine qb_istore hX 24 ([some (.ref (qx_ad X this)), some (.int p1), some (.int p2), some (.int p3), some (.int x4), none, none, none]) rfl (by decide) rfl ?_
        refine qb_aload_n hX 25 rfl rfl ?_
        refine qb_iload_n hX 26 rfl rfl ?_
        refine qb_callI hX 27 rfl cv_Model_179 (jm_Model_endOf (qk_GI hX) this p1 hthis ) (ci := 9) hthis ⟨rfl, rfl, rfl, by decide, by decide⟩ rfl (by exact Nat.le_of_ble_eq_true rfl) (fun x5 => ?_)
        refine qb_istore hX 28 ([some (.ref (qx_ad X this)), some (.int p1), some (.int p2), some (.int p3), some (.int x4), some (.int x5), none, none]) rfl (by decide) rfl ?_
        refine qb_iload hX 29 rfl rfl ?_
        refine qb_istore hX 30 ([some (.ref (qx_ad X this)), some (.int p1), some (.int p2), some (.int p3), some (.int x4), some (.int x5), some (.int x4), none]) rfl (by decide) rfl ?_
        refine qb_join 91 (fun s6 => [some (.ref (qx_ad X this)), some (.int p1), some (.int p2), some (.int p3), some (.int x4), some (.int x5), none, none]) (fun s6 => []) ?_ ?_
        ·
          refine qb_loopw (x4) (fun s7 => [some (.ref (qx_ad X this)), some (.int p1), some (.int p2), some (.int p3), some (.int x4), some (.int x5), some (.int s7), none]) (qw_s (qw_s (qw_s (qw_s (qw_s (qw_s (qw_s (qw_n (qw_0))))))))) (fun s7 => ?_)
          refine qb_iload hX 31 rfl rfl ?_
          refine qb_iload hX 32 rfl rfl ?_
          refine qb_icgt hX 33 91 rfl (by decide) ?_ ?_
          ·
            exact qb_exit (fun σ h => qj_wk (ρ' := [some (.ref (qx_ad X this)), some (.int p1), some (.int p2), some (.int p3), some (.int x4), some (.int x5), none, none]) (qw_s (qw_s (qw_s (qw_s (qw_s (qw_s (qw_n (qw_n (qw_0))))))))) h)
          ·
            refine qb_aload_n hX 34 rfl rfl ?_
            refine qb_getR hX 35 rfl fl_Model_104 hthis rfl ?_
            refine qb_iload hX 36 rfl rfl ?_
            refine qb_iload hX 37 rfl rfl ?_
            refine qb_iload hX 38 rfl rfl ?_
            refine qb_join 84 (fun s8 => [some (.ref (qx_ad X this)), some (.int p1), some (.int p2), some (.int p3), some (.int x4), some (.int x5), some (.int s7), none]) (fun s8 => [.int s8, .int s7, .ref (qx_ad X (qm_rf this 40))]) ?_ ?_
            ·
              refine qb_icne hX 39 81 rfl (by decide) ?_ ?_
              ·
                refine qb_ldcw hX 42 100000 rfl kc_Model_297 ?_
                exact qb_exit (fun σ h => qj_wk (ρ' := [some (.ref (qx_ad X this)), some (.int p1), some (.int p2), some (.int p3), some (.int x4), some (.int x5), some (.int s7), none]) (qw_s (qw_s (qw_s (qw_s (qw_s (qw_s (qw_s (qw_n (qw_0))))))))) h)
              ·
                refine qb_iconst hX 40 0 rfl (by decide) ?_
                exact qb_exit (fun σ h => qj_goto hX 41 rfl (by decide) (qj_wk (ρ' := [some (.ref (qx_ad X this)), some (.int p1), some (.int p2), some (.int p3), some (.int x4), some (.int x5), some (.int s7), none]) (qw_s (qw_s (qw_s (qw_s (qw_s (qw_s (qw_s (qw_n (qw_0))))))))) h))
            · intro s8
              refine qb_iast hX 43 rfl (kf_Model_40 hthis) ?_
              refine qb_iinc hX 44 1 (fun x9 => [some (.ref (qx_ad X this)), some (.int p1), some (.int p2), some (.int p3), some (.int x4), some (.int x5), some (.int x9), none]) rfl (by decide) (by decide) rfl (fun _ => rfl) (fun x9 => ?_)
              exact qb_exit (fun σ h => qj_goto hX 45 rfl (by decide) (qj_wk (ρ' := [some (.ref (qx_ad X this)), some (.int p1), some (.int p2), some (.int p3), some (.int x4), some (.int x5), some (.int x9), none]) (qw_s (qw_s (qw_s (qw_s (qw_s (qw_s (qw_s (qw_n (qw_0))))))))) h))
        · intro s6
          refine qb_iconst hX 46 0 rfl (by decide) ?_
          refine qb_istore hX 47 ([some (.ref (qx_ad X this)), some (.int p1), some (.int p2), some (.int p3), some (.int x4), some (.int x5), some (.int 0), none]) rfl (by decide) rfl ?_
          refine qb_join 202 (fun s10 => [some (.ref (qx_ad X this)), none, none, none, some (.int x4), some (.int x5), none, none]) (fun s10 => []) ?_ ?_
          ·
            refine qb_loopw (0) (fun s11 => [some (.ref (qx_ad X this)), some (.int p1), some (.int p2), some (.int p3), some (.int x4), some (.int x5), some (.int s11), none]) (qw_s (qw_s (qw_s (qw_s (qw_s (qw_s (qw_s (qw_n (qw_0))))))))) (fun s11 => ?_)
            refine qb_iload hX 48 rfl rfl ?_
            refine qb_iload_n hX 49 rfl rfl ?_
            refine qb_icge hX 50 202 rfl (by decide) ?_ ?_
            ·
              exact qb_exit (fun σ h => qj_wk (ρ' := [some (.ref (qx_ad X this)), none, none, none, some (.int x4), some (.int x5), none, none]) (qw_s (qw_n (qw_n (qw_n (qw_s (qw_s (qw_n (qw_n (qw_0))))))))) h)
            ·
              refine qb_iload hX 51 rfl rfl ?_
              refine qb_istore hX 52 ([some (.ref (qx_ad X this)), some (.int p1), some (.int p2), some (.int p3), some (.int x4), some (.int x5), some (.int s11), some (.int x4)]) rfl (by decide) rfl ?_
              refine qb_join 127 (fun s12 => [some (.ref (qx_ad X this)), some (.int p1), some (.int p2), some (.int p3), some (.int x4), some (.int x5), some (.int s11), none]) (fun s12 => []) ?_ ?_
              ·
                refine qb_loopw (x4) (fun s13 => [some (.ref (qx_ad X this)), some (.int p1), some (.int p2), some (.int p3), some (.int x4), some (.int x5), some (.int s11), some (.int s13)]) (qw_s (qw_s (qw_s (qw_s (qw_s (qw_s (qw_s (qw_s (qw_0))))))))) (fun s13 => ?_)
                refine qb_iload hX 53 rfl rfl ?_
                refine qb_iload hX 54 rfl rfl ?_
                refine qb_icgt hX 55 127 rfl (by decide) ?_ ?_
                ·
                  exact qb_exit (fun σ h => qj_wk (ρ' := [some (.ref (qx_ad X this)), some (.int p1), some (.int p2), some (.int p3), some (.int x4), some (.int x5), some (.int s11), none]) (qw_s (qw_s (qw_s (qw_s (qw_s (qw_s (qw_s (qw_n (qw_0))))))))) h)
                ·
                  refine qb_aload_n hX 56 rfl rfl ?_
                  refine qb_getR hX 57 rfl fl_Model_107 hthis rfl ?_
                  refine qb_iload hX 58 rfl rfl ?_
                  refine qb_ldcw hX 59 100000 rfl kc_Model_297 ?_
                  refine qb_iast hX 60 rfl (kf_Model_41 hthis) ?_
                  refine qb_iinc hX 61 1 (fun x14 => [some (.ref (qx_ad X this)), some (.int p1), some (.int p2), some (.int p3), some (.int x4), some (.int x5), some (.int s11), some (.int x14)]) rfl (by decide) (by decide) rfl (fun _ => rfl) (fun x14 => ?_)
                  exact qb_exit (fun σ h => qj_goto hX 62 rfl (by decide) (qj_wk (ρ' := [some (.ref (qx_ad X this)), some (.int p1), some (.int p2), some (.int p3), some (.int x4), some (.int x5), some (.int s11), some (.int x14)]) (qw_s (qw_s (qw_s (qw_s (qw_s (qw_s (qw_s (qw_s (qw_0))))))))) h))
              · intro s12
                refine qb_iload hX 63 rfl rfl ?_
                refine qb_istore hX 64 ([some (.ref (qx_ad X this)), some (.int p1), some (.int p2), some (.int p3), some (.int x4), some (.int x5), some (.int s11), some (.int x4)]) rfl (by decide) rfl ?_
                refine qb_join 165 (fun s15 => [some (.ref (qx_ad X this)), some (.int p1), some (.int p2), some (.int p3), some (.int x4), some (.int x5), some (.int s11), none]) (fun s15 => []) ?_ ?_
                ·
                  refine qb_loopw (x4) (fun s16 => [some (.ref (qx_ad X this)), some (.int p1), some (.int p2), some (.int p3), some (.int x4), some (.int x5), some (.int s11), some (.int s16)]) (qw_s (qw_s (qw_s (qw_s (qw_s (qw_s (qw_s (qw_s (qw_0))))))))) (fun s16 => ?_)
                  refine qb_iload hX 65 rfl rfl ?_
                  refine qb_iload hX 66 rfl rfl ?_
                  refine qb_icgt hX 67 165 rfl (by decide) ?_ ?_
                  ·
                    exact qb_exit (fun σ h => qj_wk (ρ' := [some (.ref (qx_ad X this)), some (.int p1), some (.int p2), some (.int p3), some (.int x4), some (.int x5), some (.int s11), none]) (qw_s (qw_s (qw_s (qw_s (qw_s (qw_s (qw_s (qw_n (qw_0))))))))) h)
                  ·
                    refine qb_aload_n hX 68 rfl rfl ?_
                    refine qb_getR hX 69 rfl fl_Model_104 hthis rfl ?_
                    refine qb_iload hX 70 rfl rfl ?_
                    refine qb_iald hX 71 rfl (kf_Model_40 hthis) (fun x17 => ?_)
                    refine qb_ldcw hX 72 100000 rfl kc_Model_297 ?_
                    refine qb_join 159 (fun s18 => [some (.ref (qx_ad X this)), some (.int p1), some (.int p2), some (.int p3), some (.int x4), some (.int x5), some (.int s11), some (.int s16)]) (fun s18 => []) ?_ ?_
                    ·
                      refine qb_icge hX 73 159 rfl (by decide) ?_ ?_
                      ·
                        exact qb_exit (fun σ h => qj_wk (ρ' := [some (.ref (qx_ad X this)), some (.int p1), some (.int p2), some (.int p3), some (.int x4), some (.int x5), some (.int s11), some (.int s16)]) (qw_s (qw_s (qw_s (qw_s (qw_s (qw_s (qw_s (qw_s (qw_0))))))))) h)
                      ·
                        refine qb_aload_n hX 74 rfl rfl ?_
                        refine qb_iload_n hX 75 rfl rfl ?_
                        refine qb_iload hX 76 rfl rfl ?_
                        refine qb_iload_n hX 77 rfl rfl ?_
                        refine qb_callV hX 78 rfl cv_Model_298 (jm_Model_goesOn (qk_GI hX) this p1 s16 p3 hthis ) (ci := 9) hthis ⟨rfl, rfl, rfl, by decide, by decide⟩ rfl (by exact Nat.le_of_ble_eq_true rfl) ?_
                        exact qb_exit (fun σ h => qj_wk (ρ' := [some (.ref (qx_ad X this)), some (.int p1), some (.int p2), some (.int p3), some (.int x4), some (.int x5), some (.int s11), some (.int s16)]) (qw_s (qw_s (qw_s (qw_s (qw_s (qw_s (qw_s (qw_s (qw_0))))))))) h)
                    · intro s18
                      refine qb_iinc hX 79 1 (fun x19 => [some (.ref (qx_ad X this)), some (.int p1), some (.int p2), some (.int p3), some (.int x4), some (.int x5), some (.int s11), some (.int x19)]) rfl (by decide) (by decide) rfl (fun _ => rfl) (fun x19 => ?_)
                      exact qb_exit (fun σ h => qj_goto hX 80 rfl (by decide) (qj_wk (ρ' := [some (.ref (qx_ad X this)), some (.int p1), some (.int p2), some (.int p3), some (.int x4), some (.int x5), some (.int s11), some (.int x19)]) (qw_s (qw_s (qw_s (qw_s (qw_s (qw_s (qw_s (qw_s (qw_0))))))))) h))
                · intro s15
                  refine qb_iload hX 81 rfl rfl ?_
                  refine qb_istore hX 82 ([some (.ref (qx_ad X this)), some (.int p1), some (.int p2), some (.int p3), some (.int x4), some (.int x5), some (.int s11), some (.int x4)]) rfl (by decide) rfl ?_
                  refine qb_join 196 (fun s20 => [some (.ref (qx_ad X this)), some (.int p1), some (.int p2), some (.int p3), some (.int x4), some (.int x5), some (.int s11), none]) (fun s20 => []) ?_ ?_
                  ·
                    refine qb_loopw (x4) (fun s21 => [some (.ref (qx_ad X this)), some (.int p1), some (.int p2), some (.int p3), some (.int x4), some (.int x5), some (.int s11), some (.int s21)]) (qw_s (qw_s (qw_s (qw_s (qw_s (qw_s (qw_s (qw_s (qw_0))))))))) (fun s21 => ?_)
                    refine qb_iload hX 83 rfl rfl ?_
                    refine qb_iload hX 84 rfl rfl ?_
                    refine qb_icgt hX 85 196 rfl (by decide) ?_ ?_
                    ·
                      exact qb_exit (fun σ h => qj_wk (ρ' := [some (.ref (qx_ad X this)), some (.int p1), some (.int p2), some (.int p3), some (.int x4), some (.int x5), some (.int s11), none]) (qw_s (qw_s (qw_s (qw_s (qw_s (qw_s (qw_s (qw_n (qw_0))))))))) h)
                    ·
                      refine qb_aload_n hX 86 rfl rfl ?_
                      refine qb_getR hX 87 rfl fl_Model_104 hthis rfl ?_
                      refine qb_iload hX 88 rfl rfl ?_
                      refine qb_aload_n hX 89 rfl rfl ?_
                      refine qb_getR hX 90 rfl fl_Model_107 hthis rfl ?_
                      refine qb_iload hX 91 rfl rfl ?_
                      refine qb_iald hX 92 rfl (kf_Model_41 hthis) (fun x22 => ?_)
                      refine qb_iast hX 93 rfl (kf_Model_40 hthis) ?_
                      refine qb_iinc hX 94 1 (fun x23 => [some (.ref (qx_ad X this)), some (.int p1), some (.int p2), some (.int p3), some (.int x4), some (.int x5), some (.int s11), some (.int x23)]) rfl (by decide) (by decide) rfl (fun _ => rfl) (fun x23 => ?_)
                      exact qb_exit (fun σ h => qj_goto hX 95 rfl (by decide) (qj_wk (ρ' := [some (.ref (qx_ad X this)), some (.int p1), some (.int p2), some (.int p3), some (.int x4), some (.int x5), some (.int s11), some (.int x23)]) (qw_s (qw_s (qw_s (qw_s (qw_s (qw_s (qw_s (qw_s (qw_0))))))))) h))
                  · intro s20
                    refine qb_iinc hX 96 1 (fun x24 => [some (.ref (qx_ad X this)), some (.int p1), some (.int p2), some (.int p3), some (.int x4), some (.int x5), some (.int x24), none]) rfl (by decide) (by decide) rfl (fun _ => rfl) (fun x24 => ?_)
                    exact qb_exit (fun σ h => qj_goto hX 97 rfl (by decide) (qj_wk (ρ' := [some (.ref (qx_ad X this)), some (.int p1), some (.int p2), some (.int p3), some (.int x4), some (.int x5), some (.int x24), none]) (qw_s (qw_s (qw_s (qw_s (qw_s (qw_s (qw_s (qw_n (qw_0))))))))) h))
          · intro s10
            refine qb_iload hX 98 rfl rfl ?_
            refine qb_istore hX 99 ([some (.ref (qx_ad X this)), none, none, none, some (.int x4), some (.int x5), some (.int x5), none]) rfl (by decide) rfl ?_
            refine qb_join2 235 (fun s25 => [none, none, none, none, none, none, none, none]) (fun s25 => []) ?_ ?_
            ·
              refine qb_loopw (x5) (fun s26 => [some (.ref (qx_ad X this)), none, none, none, some (.int x4), none, some (.int s26), none]) (qw_s (qw_n (qw_n (qw_n (qw_s (qw_n (qw_s (qw_n (qw_0))))))))) (fun s26 => ?_)
              refine qb_iload hX 100 rfl rfl ?_
              refine qb_iload hX 101 rfl rfl ?_
              refine qb_iclt hX 102 235 rfl (by decide) ?_ ?_
              ·
                exact qb_exit (fun σ h => qj_wk (ρ' := [none, none, none, none, none, none, none, none]) (qw_n (qw_n (qw_n (qw_n (qw_n (qw_n (qw_n (qw_n (qw_0))))))))) h)
              ·
                refine qb_aload_n hX 103 rfl rfl ?_
                refine qb_getR hX 104 rfl fl_Model_104 hthis rfl ?_
                refine qb_iload hX 105 rfl rfl ?_
                refine qb_iald hX 106 rfl (kf_Model_40 hthis) (fun x27 => ?_)
                refine qb_ldcw hX 107 100000 rfl kc_Model_297 ?_
                refine qb_icge hX 108 229 rfl (by decide) ?_ ?_
                ·
                  refine qb_iinc hX 111 (-1) (fun x28 => [some (.ref (qx_ad X this)), none, none, none, some (.int x4), none, some (.int x28), none]) rfl (by decide) (by decide) rfl (fun _ => rfl) (fun x28 => ?_)
                  exact qb_exit (fun σ h => qj_goto hX 112 rfl (by decide) (qj_wk (ρ' := [some (.ref (qx_ad X this)), none, none, none, some (.int x4), none, some (.int x28), none]) (qw_s (qw_n (qw_n (qw_n (qw_s (qw_n (qw_s (qw_n (qw_0))))))))) h))
                ·
                  refine qb_iload hX 109 rfl rfl ?_
                  exact qb_iret hX 110 rfl hR (fun _ h => h)
            · intro s25
              refine qb_bipush hX 113 (-2) rfl (by decide) ?_
              exact qb_iret hX 114 rfl hR (fun _ h => h)
      ·
        refine qb_iconst hX 18 (-1) rfl (by decide) ?_
        exact qb_iret hX 19 rfl hR (fun _ h => h)
theorem jm_Model_reach {l : Launch} {G : qm_G} (hG : qm_GI G) (this : Nat) (p1 : Int32) (p2 : Int32) (p3 : Int32) (hthis : (qm_kd this).1 = 19) : qm_MI l G jy_Model_reach prog_11_method_55_code 8 (some .int) 5 120 [.ref (G.1 this), .int p1, .int p2, .int p3] (jf_Model_reach this p1 p2 p3) :=
  qm_metI (by decide +kernel) jd_Model_reach (fun v hv => by simp only [List.mem_cons, List.not_mem_nil, or_false] at hv; rcases hv with rfl | rfl | rfl | rfl <;> rfl) (by exact Nat.le_of_ble_eq_true rfl) hG rfl (fun X hl hg hX r0 σ0 hR => by subst hl; subst hg; exact jb_Model_reach hX hR this p1 p2 p3 hthis)
