def jl_Model_levels : List qm_I := [(0, .aload_n 0, 1, 1), (1, .iload_n 1, 1, 2), (2, .aload_n 0, 1, 3), (3, .getfield 204, 3, 6), (6, .aload_n 0, 1, 7), (7, .getfield 207, 3, 10), (10, .aload_n 0, 1, 11), (11, .getfield 210, 3, 14), (14, .invokevirtual 222, 3, 17), (17, .istore_n 2, 1, 18), (18, .aload_n 0, 1, 19), (19, .iload_n 1, 1, 20), (20, .iload_n 2, 1, 21), (21, .invokevirtual 225, 3, 24), (24, .aload_n 0, 1, 25), (25, .dup, 1, 26), (26, .getfield 210, 3, 29), (29, .iload_n 2, 1, 30), (30, .isub, 1, 31), (31, .putfield 210, 3, 34), (34, .return_, 1, 35)]
theorem jd_Model_levels : qm_D prog_11_method_29_code jl_Model_levels := qm_D_of (by decide +kernel)
noncomputable def jf_Model_levels (this : Nat) (p1 : Int32) : qm_M Unit :=
  mB (mGt this 36) fun x1 =>
  mB (mGt this 37) fun x2 =>
  mB (mGt this 34) fun x3 =>
  mB (jf_Model_leastFrom this p1 x1 x2 x3) fun x4 =>
  mB (jf_Model_levelsBy this p1 x4) fun _ =>
  mB (mGt this 34) fun x5 =>
  mB (mPt this 34 (x5 - x4)) fun _ =>
  mP ()
set_option maxRecDepth 20000 in
set_option maxHeartbeats 4000000 in
theorem jb_Model_levels {X : qm_X} (hX : qm_ok X qr_Model prog_11_method_29_code 3 7 179 jl_Model_levels) {σ0 : qm_Mem} (hR : qm_RV X σ0) (this : Nat) (p1 : Int32) (hthis : (qm_kd this).1 = 19) : qm_B X (jf_Model_levels this p1) 0 [some (.ref (qx_ad X this)), some (.int p1), none] [] (fun _ σ1 => σ1 = σ0) := by
  unfold jf_Model_levels
  refine qb_aload_n hX 0 rfl rfl ?_
  refine qb_iload_n hX 1 rfl rfl ?_
  refine qb_aload_n hX 2 rfl rfl ?_
  refine qb_get hX 3 rfl fl_Model_204 hthis rfl (fun x1 => ?_)
  refine qb_aload_n hX 4 rfl rfl ?_
  refine qb_get hX 5 rfl fl_Model_207 hthis rfl (fun x2 => ?_)
  refine qb_aload_n hX 6 rfl rfl ?_
  refine qb_get hX 7 rfl fl_Model_210 hthis rfl (fun x3 => ?_)
  refine qb_callI hX 8 rfl cv_Model_222 (jm_Model_leastFrom (qk_GI hX) this p1 x1 x2 x3 hthis ) (ci := 9) hthis ⟨rfl, rfl, rfl, by decide, by decide⟩ rfl (by exact Nat.le_of_ble_eq_true rfl) (fun x4 => ?_)
  refine qb_istore_n hX 9 ([some (.ref (qx_ad X this)), some (.int p1), some (.int x4)]) rfl (by decide) rfl ?_
  refine qb_aload_n hX 10 rfl rfl ?_
  refine qb_iload_n hX 11 rfl rfl ?_
  refine qb_iload_n hX 12 rfl rfl ?_
  refine qb_callV hX 13 rfl cv_Model_225 (jm_Model_levelsBy (qk_GI hX) this p1 x4 hthis ) (ci := 9) hthis ⟨rfl, rfl, rfl, by decide, by decide⟩ rfl (by exact Nat.le_of_ble_eq_true rfl) ?_
  refine qb_aload_n hX 14 rfl rfl ?_
  refine qb_dup hX 15 rfl rfl ?_
  refine qb_get hX 16 rfl fl_Model_210 hthis rfl (fun x5 => ?_)
  refine qb_iload_n hX 17 rfl rfl ?_
  refine qb_isub hX 18 rfl ?_
  refine qb_put hX 19 rfl fp_Model_210 hthis ?_
  exact qb_vret hX 20 rfl hR (fun _ h => h)
theorem jm_Model_levels {l : Launch} {G : qm_G} (hG : qm_GI G) (this : Nat) (p1 : Int32) (hthis : (qm_kd this).1 = 19) : qm_MV l G jy_Model_levels prog_11_method_29_code 3 7 179 [.ref (G.1 this), .int p1] (jf_Model_levels this p1) :=
  qm_metV (by decide +kernel) jd_Model_levels (fun v hv => by simp only [List.mem_cons, List.not_mem_nil, or_false] at hv; rcases hv with rfl | rfl <;> rfl) (by exact Nat.le_of_ble_eq_true rfl) hG (fun X hl hg hX σ0 hR => by subst hl; subst hg; exact jb_Model_levels hX hR this p1 hthis)
def jl_Model_fills : List qm_I := [(0, .iconst 0, 1, 1), (1, .istore_n 2, 1, 2), (2, .iconst 0, 1, 3), (3, .istore_n 3, 1, 4), (4, .iload_n 3, 1, 5), (5, .aload_n 0, 1, 6), (6, .getfield 7, 3, 9), (9, .iconst 0, 1, 10), (10, .iaload, 1, 11), (11, .if_icmp .ge 136, 3, 14), (14, .aload_n 0, 1, 15), (15, .iload_n 1, 1, 16), (16, .invokevirtual 179, 3, 19), (19, .istore 4, 2, 21), (21, .iload 4, 2, 23), (23, .aload_n 0, 1, 24), (24, .getfield 204, 3, 27), (27, .if_icmp .lt 49, 3, 30), (30, .iload 4, 2, 32), (32, .aload_n 0, 1, 33), (33, .getfield 204, 3, 36), (36, .if_icmp .le 13, 3, 39), (39, .aload_n 0, 1, 40), (40, .iload_n 1, 1, 41), (41, .iload 4, 2, 43), (43, .invokevirtual 182, 3, 46), (46, .ifCond .eq 24, 3, 49), (49, .aload_n 0, 1, 50), (50, .aload_n 0, 1, 51), (51, .getfield 204, 3, 54), (54, .iload 4, 2, 56), (56, .aload_n 0, 1, 57), (57, .getfield 207, 3, 60), (60, .aload_n 0, 1, 61), (61, .getfield 210, 3, 64), (64, .invokevirtual 235, 3, 67), (67, .ifCond .ne 9, 3, 70), (70, .iinc 4 (-1), 3, 73), (73, .goto (-52), 3, 76), (76, .iload 4, 2, 78), (78, .aload_n 0, 1, 79), (79, .getfield 204, 3, 82), (82, .if_icmp .ge 6, 3, 85), (85, .bipush (-2), 2, 87), (87, .ireturn, 1, 88), (88, .iload_n 2, 1, 89), (89, .ifCond .ne 33, 3, 92), (92, .iload 4, 2, 94), (94, .aload_n 0, 1, 95), (95, .getfield 204, 3, 98), (98, .if_icmp .gt 24, 3, 101), (101, .aload_n 0, 1, 102), (102, .aload_n 0, 1, 103), (103, .getfield 204, 3, 106), (106, .iload 4, 2, 108), (108, .aload_n 0, 1, 109), (109, .getfield 207, 3, 112), (112, .aload_n 0, 1, 113), (113, .getfield 210, 3, 116), (116, .invokevirtual 213, 3, 119), (119, .ifCond .le 7, 3, 122), (122, .iconst 1, 1, 123), (123, .goto 4, 3, 126), (126, .iconst 0, 1, 127), (127, .istore_n 2, 1, 128), (128, .aload_n 0, 1, 129), (129, .iload_n 1, 1, 130), (130, .iload_n 3, 1, 131), (131, .iload 4, 2, 133), (133, .aload_n 0, 1, 134), (134, .getfield 210, 3, 137), (137, .iconst 0, 1, 138), (138, .invokevirtual 231, 3, 141), (141, .iinc 3 1, 3, 144), (144, .goto (-140), 3, 147), (147, .iload_n 2, 1, 148), (148, .ifCond .eq 7, 3, 151), (151, .iconst 1, 1, 152), (152, .goto 4, 3, 155), (155, .iconst 0, 1, 156), (156, .ireturn, 1, 157)]
theorem jd_Model_fills : qm_D prog_11_method_32_code jl_Model_fills := qm_D_of (by decide +kernel)
noncomputable def jf_Model_fills (this : Nat) (p1 : Int32) : qm_M Int32 :=
  mB (α := (Int32 ⊕ Int32)) (
    mW (S := Int32 × Int32) (α := (Int32 ⊕ Int32)) (fun s2 =>
      mB (mLd (qm_rf this 0) 0) fun x3 =>
      if x3 ≤ s2.2 then
        mP (Sum.inr (Sum.inl s2.1))
      else
        mB (jf_Model_endOf this p1) fun x4 =>
        mB (α := Int32) (
          mW (S := Int32) (α := Int32) (fun s6 =>
            mB (mGt this 36) fun x7 =>
            if s6 < x7 then
              mP (Sum.inr s6)
            else
              mB (mGt this 36) fun x8 =>
              mB (α := (Unit ⊕ (Int32 ⊕ Int32))) (
                mB (α := (Unit ⊕ (Unit ⊕ (Int32 ⊕ Int32)))) (
                  if s6 ≤ x8 then
                    mP (Sum.inl ())
                  else
                    mB (jf_Model_isEnd this p1 s6) fun x11 =>
                    if x11 = 0 then
                      mP (Sum.inr (Sum.inl ()))
                    else
                      mP (Sum.inl ())) (Sum.elim (fun s10 =>
                  mB (mGt this 36) fun x12 =>
                  mB (mGt this 37) fun x13 =>
                  mB (mGt this 34) fun x14 =>
                  mB (jf_Model_canEnd this x12 s6 x13 x14) fun x15 =>
                  if ¬ x15 = 0 then
                    mP (Sum.inr (Sum.inr s6))
                  else
                    mP (Sum.inl ())) mP)) (Sum.elim (fun s9 =>
                mB (mP (s6 + (-1))) fun x16 =>
                mP (Sum.inl x16)) mP)) x4) fun s5 =>
        mB (mGt this 36) fun x17 =>
        if x17 ≤ s5 then
          mB (α := Int32) (
            mB (α := (Unit ⊕ Int32)) (
              if ¬ s2.1 = 0 then
                mP (Sum.inl ())
              else
                mB (mGt this 36) fun x20 =>
                if x20 < s5 then
                  mP (Sum.inl ())
                else
                  mB (mGt this 36) fun x21 =>
                  mB (mGt this 37) fun x22 =>
                  mB (mGt this 34) fun x23 =>
                  mB (jf_Model_standsOf this x21 s5 x22 x23) fun x24 =>
                  if x24 ≤ 0 then
                    mP (Sum.inr 0)
                  else
                    mP (Sum.inl ())) (Sum.elim (fun s19 =>
              mP 1) mP)) fun s18 =>
          mB (mGt this 34) fun x25 =>
          mB (jf_Model_puts this p1 s2.2 s5 x25 0) fun _ =>
          mB (mP (s2.2 + 1)) fun x26 =>
          mP (Sum.inl (s18, x26))
        else
          mP (Sum.inr (Sum.inr (-2)))) (0, 0)) (Sum.elim (fun s1 =>
    if s1 = 0 then
      mP 0
    else
      mP 1) mP)
set_option maxRecDepth 20000 in
set_option maxHeartbeats 4000000 in
theorem jb_Model_fills {X : qm_X} (hX : qm_ok X qr_Model prog_11_method_32_code 5 5 121 jl_Model_fills) {r0 : Int32} {σ0 : qm_Mem} (hR : qm_RI X r0 σ0 .int) (this : Nat) (p1 : Int32) (hthis : (qm_kd this).1 = 19) : qm_B X (jf_Model_fills this p1) 0 [some (.ref (qx_ad X this)), some (.int p1), none, none, none] [] (fun r σ1 => r = r0 ∧ σ1 = σ0) := by
  unfold jf_Model_fills
  refine qb_iconst hX 0 0 rfl (by decide) ?_
  refine qb_istore_n hX 1 ([some (.ref (qx_ad X this)), some (.int p1), some (.int 0), none, none]) rfl (by decide) rfl ?_
  refine qb_iconst hX 2 0 rfl (by decide) ?_
  refine qb_istore_n hX 3 ([some (.ref (qx_ad X this)), some (.int p1), some (.int 0), some (.int 0), none]) rfl (by decide) rfl ?_
  refine qb_join2 147 (fun s1 => [none, none, some (.int s1), none, none]) (fun s1 => []) ?_ ?_
  ·
    refine qb_loopw ((0, 0)) (fun s2 => [some (.ref (qx_ad X this)), some (.int p1), some (.int s2.1), some (.int s2.2), none]) (qw_s (qw_s (qw_s (qw_s (qw_n (qw_0)))))) (fun s2 => ?_)
    refine qb_iload_n hX 4 rfl rfl ?_
    refine qb_aload_n hX 5 rfl rfl ?_
    refine qb_getR hX 6 rfl fl_Model_7 hthis rfl ?_
    refine qb_iconst hX 7 0 rfl (by decide) ?_
    refine qb_iald hX 8 rfl (kf_Model_0 hthis) (fun x3 => ?_)
    refine qb_icge hX 9 147 rfl (by decide) ?_ ?_
    ·
      exact qb_exit (fun σ h => qj_wk (ρ' := [none, none, some (.int s2.1), none, none]) (qw_n (qw_n (qw_s (qw_n (qw_n (qw_0)))))) h)
    ·
      refine qb_aload_n hX 10 rfl rfl ?_
      refine qb_iload_n hX 11 rfl rfl ?_
      refine qb_callI hX 12 rfl cv_Model_179 (jm_Model_endOf (qk_GI hX) this p1 hthis ) (ci := 9) hthis ⟨rfl, rfl, rfl, by decide, by decide⟩ rfl (by exact Nat.le_of_ble_eq_true rfl) (fun x4 => ?_)
      refine qb_istore hX 13 ([some (.ref (qx_ad X this)), some (.int p1), some (.int s2.1), some (.int s2.2), some (.int x4)]) rfl (by decide) rfl ?_
      refine qb_join 76 (fun s5 => [some (.ref (qx_ad X this)), some (.int p1), some (.int s2.1), some (.int s2.2), some (.int s5)]) (fun s5 => []) ?_ ?_
      ·
        refine qb_loopw (x4) (fun s6 => [some (.ref (qx_ad X this)), some (.int p1), some (.int s2.1), some (.int s2.2), some (.int s6)]) (qw_s (qw_s (qw_s (qw_s (qw_s (qw_0)))))) (fun s6 => ?_)
        refine qb_iload hX 14 rfl rfl ?_
        refine qb_aload_n hX 15 rfl rfl ?_
        refine qb_get hX 16 rfl fl_Model_204 hthis rfl (fun x7 => ?_)
        refine qb_iclt hX 17 76 rfl (by decide) ?_ ?_
        ·
          exact qb_exit (fun σ h => qj_wk (ρ' := [some (.ref (qx_ad X this)), some (.int p1), some (.int s2.1), some (.int s2.2), some (.int s6)]) (qw_s (qw_s (qw_s (qw_s (qw_s (qw_0)))))) h)
        ·
          refine qb_iload hX 18 rfl rfl ?_
          refine qb_aload_n hX 19 rfl rfl ?_
          refine qb_get hX 20 rfl fl_Model_204 hthis rfl (fun x8 => ?_)
          refine qb_join2 70 (fun s9 => [some (.ref (qx_ad X this)), some (.int p1), some (.int s2.1), some (.int s2.2), some (.int s6)]) (fun s9 => []) ?_ ?_
          ·
            refine qb_join2 49 (fun s10 => [some (.ref (qx_ad X this)), some (.int p1), some (.int s2.1), some (.int s2.2), some (.int s6)]) (fun s10 => []) ?_ ?_
            ·
              refine qb_icle hX 21 49 rfl (by decide) ?_ ?_
              ·
                exact qb_exit (fun σ h => qj_wk (ρ' := [some (.ref (qx_ad X this)), some (.int p1), some (.int s2.1), some (.int s2.2), some (.int s6)]) (qw_s (qw_s (qw_s (qw_s (qw_s (qw_0)))))) h)
              ·
                refine qb_aload_n hX 22 rfl rfl ?_
                refine qb_iload_n hX 23 rfl rfl ?_
                refine qb_iload hX 24 rfl rfl ?_
                refine qb_callI hX 25 rfl cv_Model_182 (jm_Model_isEnd (qk_GI hX) this p1 s6 hthis ) (ci := 9) hthis ⟨rfl, rfl, rfl, by decide, by decide⟩ rfl (by exact Nat.le_of_ble_eq_true rfl) (fun x11 => ?_)
                refine qb_ifeq hX 26 70 rfl (by decide) ?_ ?_
                ·
                  exact qb_exit (fun σ h => qj_wk (ρ' := [some (.ref (qx_ad X this)), some (.int p1), some (.int s2.1), some (.int s2.2), some (.int s6)]) (qw_s (qw_s (qw_s (qw_s (qw_s (qw_0)))))) h)
                ·
                  exact qb_exit (fun σ h => qj_wk (ρ' := [some (.ref (qx_ad X this)), some (.int p1), some (.int s2.1), some (.int s2.2), some (.int s6)]) (qw_s (qw_s (qw_s (qw_s (qw_s (qw_0)))))) h)
            · intro s10
              refine qb_aload_n hX 27 rfl rfl ?_
              refine qb_aload_n hX 28 rfl rfl ?_
              refine qb_get hX 29 rfl fl_Model_204 hthis rfl (fun x12 => ?_)
              refine qb_iload hX 30 rfl rfl ?_
              refine qb_aload_n hX 31 rfl rfl ?_
              refine qb_get hX 32 rfl fl_Model_207 hthis rfl (fun x13 => ?_)
              refine qb_aload_n hX 33 rfl rfl ?_
              refine qb_get hX 34 rfl fl_Model_210 hthis rfl (fun x14 => ?_)
              refine qb_callI hX 35 rfl cv_Model_235 (jm_Model_canEnd (qk_GI hX) this x12 s6 x13 x14 hthis ) (ci := 9) hthis ⟨rfl, rfl, rfl, by decide, by decide⟩ rfl (by exact Nat.le_of_ble_eq_true rfl) (fun x15 => ?_)
              refine qb_ifne hX 36 76 rfl (by decide) ?_ ?_
              ·
                exact qb_exit (fun σ h => qj_wk (ρ' := [some (.ref (qx_ad X this)), some (.int p1), some (.int s2.1), some (.int s2.2), some (.int s6)]) (qw_s (qw_s (qw_s (qw_s (qw_s (qw_0)))))) h)
              ·
                exact qb_exit (fun σ h => qj_wk (ρ' := [some (.ref (qx_ad X this)), some (.int p1), some (.int s2.1), some (.int s2.2), some (.int s6)]) (qw_s (qw_s (qw_s (qw_s (qw_s (qw_0)))))) h)
          · intro s9
            refine qb_iinc hX 37 (-1) (fun x16 => [some (.ref (qx_ad X this)), some (.int p1), some (.int s2.1), some (.int s2.2), some (.int x16)]) rfl (by decide) (by decide) rfl (fun _ => rfl) (fun x16 => ?_)
            exact qb_exit (fun σ h => qj_goto hX 38 rfl (by decide) (qj_wk (ρ' := [some (.ref (qx_ad X this)), some (.int p1), some (.int s2.1), some (.int s2.2), some (.int x16)]) (qw_s (qw_s (qw_s (qw_s (qw_s (qw_0)))))) h))
      · intro s5
        refine qb_iload hX 39 rfl rfl ?_
        refine qb_aload_n hX 40 rfl rfl ?_
        refine qb_get hX 41 rfl fl_Model_204 hthis rfl (fun x17 => ?_)
        refine qb_icge hX 42 88 rfl (by decide) ?_ ?_
        ·
          refine qb_iload_n hX 45 rfl rfl ?_
          refine qb_join 127 (fun s18 => [some (.ref (qx_ad X this)), some (.int p1), none, some (.int s2.2), some (.int s5)]) (fun s18 => [.int s18]) ?_ ?_
          ·
            refine qb_join2 122 (fun s19 => [some (.ref (qx_ad X this)), some (.int p1), none, some (.int s2.2), some (.int s5)]) (fun s19 => []) ?_ ?_
            ·
              refine qb_ifne hX 46 122 rfl (by decide) ?_ ?_
              ·
                exact qb_exit (fun σ h => qj_wk (ρ' := [some (.ref (qx_ad X this)), some (.int p1), none, some (.int s2.2), some (.int s5)]) (qw_s (qw_s (qw_n (qw_s (qw_s (qw_0)))))) h)
              ·
                refine qb_iload hX 47 rfl rfl ?_
                refine qb_aload_n hX 48 rfl rfl ?_
                refine qb_get hX 49 rfl fl_Model_204 hthis rfl (fun x20 => ?_)
                refine qb_icgt hX 50 122 rfl (by decide) ?_ ?_
                ·
                  exact qb_exit (fun σ h => qj_wk (ρ' := [some (.ref (qx_ad X this)), some (.int p1), none, some (.int s2.2), some (.int s5)]) (qw_s (qw_s (qw_n (qw_s (qw_s (qw_0)))))) h)
                ·
                  refine qb_aload_n hX 51 rfl rfl ?_
                  refine qb_aload_n hX 52 rfl rfl ?_
                  refine qb_get hX 53 rfl fl_Model_204 hthis rfl (fun x21 => ?_)
                  refine qb_iload hX 54 rfl rfl ?_
                  refine qb_aload_n hX 55 rfl rfl ?_
                  refine qb_get hX 56 rfl fl_Model_207 hthis rfl (fun x22 => ?_)
                  refine qb_aload_n hX 57 rfl rfl ?_
                  refine qb_get hX 58 rfl fl_Model_210 hthis rfl (fun x23 => ?_)
                  refine qb_callI hX 59 rfl cv_Model_213 (jm_Model_standsOf (qk_GI hX) this x21 s5 x22 x23 hthis ) (ci := 9) hthis ⟨rfl, rfl, rfl, by decide, by decide⟩ rfl (by exact Nat.le_of_ble_eq_true rfl) (fun x24 => ?_)
                  refine qb_ifle hX 60 126 rfl (by decide) ?_ ?_
                  ·
                    refine qb_iconst hX 63 0 rfl (by decide) ?_
                    exact qb_exit (fun σ h => qj_wk (ρ' := [some (.ref (qx_ad X this)), some (.int p1), none, some (.int s2.2), some (.int s5)]) (qw_s (qw_s (qw_n (qw_s (qw_s (qw_0)))))) h)
                  ·
                    exact qb_exit (fun σ h => qj_wk (ρ' := [some (.ref (qx_ad X this)), some (.int p1), none, some (.int s2.2), some (.int s5)]) (qw_s (qw_s (qw_n (qw_s (qw_s (qw_0)))))) h)
            · intro s19
              refine qb_iconst hX 61 1 rfl (by decide) ?_
              exact qb_exit (fun σ h => qj_goto hX 62 rfl (by decide) (qj_wk (ρ' := [some (.ref (qx_ad X this)), some (.int p1), none, some (.int s2.2), some (.int s5)]) (qw_s (qw_s (qw_n (qw_s (qw_s (qw_0)))))) h))
          · intro s18
            refine qb_istore_n hX 64 ([some (.ref (qx_ad X this)), some (.int p1), some (.int s18), some (.int s2.2), some (.int s5)]) rfl (by decide) rfl ?_
            refine qb_aload_n hX 65 rfl rfl ?_
            refine qb_iload_n hX 66 rfl rfl ?_
            refine qb_iload_n hX 67 rfl rfl ?_
            refine qb_iload hX 68 rfl rfl ?_
            refine qb_aload_n hX 69 rfl rfl ?_
            refine qb_get hX 70 rfl fl_Model_210 hthis rfl (fun x25 => ?_)
            refine qb_iconst hX 71 0 rfl (by decide) ?_
            refine qb_callV hX 72 rfl cv_Model_231 (jm_Model_puts (qk_GI hX) this p1 s2.2 s5 x25 0 hthis ) (ci := 9) hthis ⟨rfl, rfl, rfl, by decide, by decide⟩ rfl (by exact Nat.le_of_ble_eq_true rfl) ?_
            refine qb_iinc hX 73 1 (fun x26 => [some (.ref (qx_ad X this)), some (.int p1), some (.int s18), some (.int x26), some (.int s5)]) rfl (by decide) (by decide) rfl (fun _ => rfl) (fun x26 => ?_)
            exact qb_exit (fun σ h => qj_goto hX 74 rfl (by decide) (qj_wk (ρ' := [some (.ref (qx_ad X this)), some (.int p1), some (.int s18), some (.int x26), none]) (qw_s (qw_s (qw_s (qw_s (qw_n (qw_0)))))) h))
        ·
          refine qb_bipush hX 43 (-2) rfl (by decide) ?_
          exact qb_iret hX 44 rfl hR (fun _ h => h)
  · intro s1
    refine qb_iload_n hX 75 rfl rfl ?_
    refine qb_ifeq hX 76 155 rfl (by decide) ?_ ?_
    ·
      refine qb_iconst hX 79 0 rfl (by decide) ?_
      exact qb_iret hX 80 rfl hR (fun _ h => h)
    ·
      refine qb_iconst hX 77 1 rfl (by decide) ?_
      refine qb_goto hX 78 (tgt := 156) rfl (by decide) ?_
      exact qb_iret hX 80 rfl hR (fun _ h => h)
theorem jm_Model_fills {l : Launch} {G : qm_G} (hG : qm_GI G) (this : Nat) (p1 : Int32) (hthis : (qm_kd this).1 = 19) : qm_MI l G jy_Model_fills prog_11_method_32_code 5 (some .int) 5 121 [.ref (G.1 this), .int p1] (jf_Model_fills this p1) :=
  qm_metI (by decide +kernel) jd_Model_fills (fun v hv => by simp only [List.mem_cons, List.not_mem_nil, or_false] at hv; rcases hv with rfl | rfl <;> rfl) (by exact Nat.le_of_ble_eq_true rfl) hG rfl (fun X hl hg hX r0 σ0 hR => by subst hl; subst hg; exact jb_Model_fills hX hR this p1 hthis)
def jl_Model_poursSection : List qm_I := [(0, .aload_n 0, 1, 1), (1, .aload_n 0, 1, 2), (2, .getfield 47, 3, 5), (5, .iload_n 1, 1, 6), (6, .iaload, 1, 7), (7, .putfield 204, 3, 10), (10, .aload_n 0, 1, 11), (11, .iconst 0, 1, 12), (12, .putfield 207, 3, 15), (15, .aload_n 0, 1, 16), (16, .getfield 204, 3, 19), (19, .aload_n 0, 1, 20), (20, .iload_n 1, 1, 21), (21, .invokevirtual 179, 3, 24), (24, .if_icmp .ne 5, 3, 27), (27, .iconst 1, 1, 28), (28, .ireturn, 1, 29), (29, .aload_n 0, 1, 30), (30, .iload_n 1, 1, 31), (31, .aload_n 0, 1, 32), (32, .getfield 204, 3, 35), (35, .aload_n 0, 1, 36), (36, .getfield 207, 3, 39), (39, .aload_n 0, 1, 40), (40, .getfield 210, 3, 43), (43, .invokevirtual 194, 3, 46), (46, .ifCond .ne 99, 3, 49), (49, .aload_n 0, 1, 50), (50, .getfield 210, 3, 53), (53, .aload_n 0, 1, 54), (54, .getfield 7, 3, 57), (57, .iconst 1, 1, 58), (58, .iaload, 1, 59), (59, .if_icmp .ne 7, 3, 62), (62, .iconst 1, 1, 63), (63, .goto 4, 3, 66), (66, .iconst 0, 1, 67), (67, .istore_n 2, 1, 68), (68, .aload_n 0, 1, 69), (69, .getfield 198, 3, 72), (72, .istore_n 3, 1, 73), (73, .aload_n 0, 1, 74), (74, .getfield 204, 3, 77), (77, .istore 4, 2, 79), (79, .aload_n 0, 1, 80), (80, .getfield 207, 3, 83), (83, .istore 5, 2, 85), (85, .aload_n 0, 1, 86), (86, .iload_n 1, 1, 87), (87, .invokevirtual 238, 3, 90), (90, .istore 6, 2, 92), (92, .iload 6, 2, 94), (94, .iconst 1, 1, 95), (95, .if_icmp .eq 34, 3, 98), (98, .aload_n 0, 1, 99), (99, .iload_n 3, 1, 100), (100, .putfield 198, 3, 103), (103, .aload_n 0, 1, 104), (104, .iload 4, 2, 106), (106, .putfield 204, 3, 109), (109, .aload_n 0, 1, 110), (110, .iload 5, 2, 112), (112, .putfield 207, 3, 115), (115, .iload_n 2, 1, 116), (116, .ifCond .eq 13, 3, 119), (119, .aload_n 0, 1, 120), (120, .aload_n 0, 1, 121), (121, .getfield 204, 3, 124), (124, .putfield 216, 3, 127), (127, .iconst 0, 1, 128), (128, .ireturn, 1, 129), (129, .aload_n 0, 1, 130), (130, .aload_n 0, 1, 131), (131, .getfield 204, 3, 134), (134, .invokevirtual 219, 3, 137), (137, .ifCond .ne 5, 3, 140), (140, .iconst 0, 1, 141), (141, .ireturn, 1, 142), (142, .goto (-113), 3, 145), (145, .aload_n 0, 1, 146), (146, .iload_n 1, 1, 147), (147, .invokevirtual 241, 3, 150), (150, .iconst 1, 1, 151), (151, .ireturn, 1, 152)]
theorem jd_Model_poursSection : qm_D prog_11_method_33_code jl_Model_poursSection := qm_D_of (by decide +kernel)
noncomputable def jf_Model_poursSection (this : Nat) (p1 : Int32) : qm_M Int32 :=
  mB (mLd (qm_rf this 14) p1) fun x1 =>
  mB (mPt this 36 x1) fun _ =>
  mB (mPt this 37 0) fun _ =>
  mB (mGt this 36) fun x2 =>
  mB (jf_Model_endOf this p1) fun x3 =>
  if ¬ x2 = x3 then
    mB (α := (Unit ⊕ Int32)) (
      mW (S := Unit) (α := (Unit ⊕ Int32)) (fun s5 =>
        mB (mGt this 36) fun x6 =>
        mB (mGt this 37) fun x7 =>
        mB (mGt this 34) fun x8 =>
        mB (jf_Model_fitsFrom this p1 x6 x7 x8) fun x9 =>
        if ¬ x9 = 0 then
          mP (Sum.inr (Sum.inl ()))
        else
          mB (mGt this 34) fun x10 =>
          mB (mLd (qm_rf this 0) 1) fun x11 =>
          mB (α := Int32) (
            if ¬ x10 = x11 then
              mP 0
            else
              mP 1) fun s12 =>
          mB (mGt this 32) fun x13 =>
          mB (mGt this 36) fun x14 =>
          mB (mGt this 37) fun x15 =>
          mB (jf_Model_fills this p1) fun x16 =>
          mB (α := (Unit ⊕ (Unit ⊕ (Unit ⊕ Int32)))) (
            if x16 = 1 then
              mP (Sum.inl ())
            else
              mB (mPt this 32 x13) fun _ =>
              mB (mPt this 36 x14) fun _ =>
              mB (mPt this 37 x15) fun _ =>
              if s12 = 0 then
                mP (Sum.inl ())
              else
                mB (mGt this 36) fun x18 =>
                mB (mPt this 35 x18) fun _ =>
                mP (Sum.inr (Sum.inr (Sum.inr 0)))) (Sum.elim (fun s17 =>
            mB (mGt this 36) fun x19 =>
            mB (jf_Model_turnsPage this x19) fun x20 =>
            if ¬ x20 = 0 then
              mP (Sum.inl ())
            else
              mP (Sum.inr (Sum.inr 0))) mP)) ()) (Sum.elim (fun s4 =>
      mB (jf_Model_levels this p1) fun _ =>
      mP 1) mP)
  else
    mP 1
set_option maxRecDepth 20000 in
set_option maxHeartbeats 4000000 in
theorem jb_Model_poursSection {X : qm_X} (hX : qm_ok X qr_Model prog_11_method_33_code 7 8 201 jl_Model_poursSection) {r0 : Int32} {σ0 : qm_Mem} (hR : qm_RI X r0 σ0 .boolean) (this : Nat) (p1 : Int32) (hthis : (qm_kd this).1 = 19) : qm_B X (jf_Model_poursSection this p1) 0 [some (.ref (qx_ad X this)), some (.int p1), none, none, none, none, none] [] (fun r σ1 => r = r0 ∧ σ1 = σ0) := by
  unfold jf_Model_poursSection
  refine qb_aload_n hX 0 rfl rfl ?_
  refine qb_aload_n hX 1 rfl rfl ?_
  refine qb_getR hX 2 rfl fl_Model_47 hthis rfl ?_
  refine qb_iload_n hX 3 rfl rfl ?_
  refine qb_iald hX 4 rfl (kf_Model_14 hthis) (fun x1 => ?_)
  refine qb_put hX 5 rfl fp_Model_204 hthis ?_
  refine qb_aload_n hX 6 rfl rfl ?_
  refine qb_iconst hX 7 0 rfl (by decide) ?_
  refine qb_put hX 8 rfl fp_Model_207 hthis ?_
  refine qb_aload_n hX 9 rfl rfl ?_
  refine qb_get hX 10 rfl fl_Model_204 hthis rfl (fun x2 => ?_)
  refine qb_aload_n hX 11 rfl rfl ?_
  refine qb_iload_n hX 12 rfl rfl ?_
  refine qb_callI hX 13 rfl cv_Model_179 (jm_Model_endOf (qk_GI hX) this p1 hthis ) (ci := 9) hthis ⟨rfl, rfl, rfl, by decide, by decide⟩ rfl (by exact Nat.le_of_ble_eq_true rfl) (fun x3 => ?_)
  refine qb_icne hX 14 29 rfl (by decide) ?_ ?_
  ·
    refine qb_join2 145 (fun s4 => [some (.ref (qx_ad X this)), some (.int p1), none, none, none, none, none]) (fun s4 => []) ?_ ?_
    ·
      refine qb_loopw (()) (fun s5 => [some (.ref (qx_ad X this)), some (.int p1), none, none, none, none, none]) (qw_s (qw_s (qw_n (qw_n (qw_n (qw_n (qw_n (qw_0)))))))) (fun s5 => ?_)
      refine qb_aload_n hX 17 rfl rfl ?_
      refine qb_iload_n hX 18 rfl rfl ?_
      refine qb_aload_n hX 19 rfl rfl ?_
      refine qb_get hX 20 rfl fl_Model_204 hthis rfl (fun x6 => ?_)
      refine qb_aload_n hX 21 rfl rfl ?_
      refine qb_get hX 22 rfl fl_Model_207 hthis rfl (fun x7 => ?_)
      refine qb_aload_n hX 23 rfl rfl ?_
      refine qb_get hX 24 rfl fl_Model_210 hthis rfl (fun x8 => ?_)
      refine qb_callI hX 25 rfl cv_Model_194 (jm_Model_fitsFrom (qk_GI hX) this p1 x6 x7 x8 hthis ) (ci := 9) hthis ⟨rfl, rfl, rfl, by decide, by decide⟩ rfl (by exact Nat.le_of_ble_eq_true rfl) (fun x9 => ?_)
      refine qb_ifne hX 26 145 rfl (by decide) ?_ ?_
      ·
        exact qb_exit (fun σ h => qj_wk (ρ' := [some (.ref (qx_ad X this)), some (.int p1), none, none, none, none, none]) (qw_s (qw_s (qw_n (qw_n (qw_n (qw_n (qw_n (qw_0)))))))) h)
      ·
        refine qb_aload_n hX 27 rfl rfl ?_
        refine qb_get hX 28 rfl fl_Model_210 hthis rfl (fun x10 => ?_)
        refine qb_aload_n hX 29 rfl rfl ?_
        refine qb_getR hX 30 rfl fl_Model_7 hthis rfl ?_
        refine qb_iconst hX 31 1 rfl (by decide) ?_
        refine qb_iald hX 32 rfl (kf_Model_0 hthis) (fun x11 => ?_)
        refine qb_join 67 (fun s12 => [some (.ref (qx_ad X this)), some (.int p1), none, none, none, none, none]) (fun s12 => [.int s12]) ?_ ?_
        ·
          refine qb_icne hX 33 66 rfl (by decide) ?_ ?_
          ·
            refine qb_iconst hX 36 0 rfl (by decide) ?_
            exact qb_exit (fun σ h => qj_wk (ρ' := [some (.ref (qx_ad X this)), some (.int p1), none, none, none, none, none]) (qw_s (qw_s (qw_n (qw_n (qw_n (qw_n (qw_n (qw_0)))))))) h)
          ·
            refine qb_iconst hX 34 1 rfl (by decide) ?_
            exact qb_exit (fun σ h => qj_goto hX 35 rfl (by decide) (qj_wk (ρ' := [some (.ref (qx_ad X this)), some (.int p1), none, none, none, none, none]) (qw_s (qw_s (qw_n (qw_n (qw_n (qw_n (qw_n (qw_0)))))))) h))
        · intro s12
          refine qb_istore_n hX 37 ([some (.ref (qx_ad X this)), some (.int p1), some (.int s12), none, none, none, none]) rfl (by decide) rfl ?_
          refine qb_aload_n hX 38 rfl rfl ?_
          refine qb_get hX 39 rfl fl_Model_198 hthis rfl (fun x13 => ?_)
          refine qb_istore_n hX 40 ([some (.ref (qx_ad X this)), some (.int p1), some (.int s12), some (.int x13), none, none, none]) rfl (by decide) rfl ?_
          refine qb_aload_n hX 41 rfl rfl ?_
          refine qb_get hX 42 rfl fl_Model_204 hthis rfl (fun x14 => ?_)
          refine qb_istore hX 43 ([some (.ref (qx_ad X this)), some (.int p1), some (.int s12), some (.int x13), some (.int x14), none, none]) rfl (by decide) rfl ?_
          refine qb_aload_n hX 44 rfl rfl ?_
          refine qb_get hX 45 rfl fl_Model_207 hthis rfl (fun x15 => ?_)
          refine qb_istore hX 46 ([some (.ref (qx_ad X this)), some (.int p1), some (.int s12), some (.int x13), some (.int x14), some (.int x15), none]) rfl (by decide) rfl ?_
          refine qb_aload_n hX 47 rfl rfl ?_
          refine qb_iload_n hX 48 rfl rfl ?_
          refine qb_callI hX 49 rfl cv_Model_238 (jm_Model_fills (qk_GI hX) this p1 hthis ) (ci := 9) hthis ⟨rfl, rfl, rfl, by decide, by decide⟩ rfl (by exact Nat.le_of_ble_eq_true rfl) (fun x16 => ?_)
          refine qb_istore hX 50 ([some (.ref (qx_ad X this)), some (.int p1), some (.int s12), some (.int x13), some (.int x14), some (.int x15), some (.int x16)]) rfl (by decide) rfl ?_
          refine qb_iload hX 51 rfl rfl ?_
          refine qb_iconst hX 52 1 rfl (by decide) ?_
          refine qb_join2 129 (fun s17 => [some (.ref (qx_ad X this)), some (.int p1), none, none, none, none, none]) (fun s17 => []) ?_ ?_
          ·
            refine qb_iceq hX 53 129 rfl (by decide) ?_ ?_
            ·
              exact qb_exit (fun σ h => qj_wk (ρ' := [some (.ref (qx_ad X this)), some (.int p1), none, none, none, none, none]) (qw_s (qw_s (qw_n (qw_n (qw_n (qw_n (qw_n (qw_0)))))))) h)
            ·
              refine qb_aload_n hX 54 rfl rfl ?_
              refine qb_iload_n hX 55 rfl rfl ?_
              refine qb_put hX 56 rfl fp_Model_198 hthis ?_
              refine qb_aload_n hX 57 rfl rfl ?_
              refine qb_iload hX 58 rfl rfl ?_
              refine qb_put hX 59 rfl fp_Model_204 hthis ?_
              refine qb_aload_n hX 60 rfl rfl ?_
              refine qb_iload hX 61 rfl rfl ?_
              refine qb_put hX 62 rfl fp_Model_207 hthis ?_
              refine qb_iload_n hX 63 rfl rfl ?_
              refine qb_ifeq hX 64 129 rfl (by decide) ?_ ?_
              ·
                exact qb_exit (fun σ h => qj_wk (ρ' := [some (.ref (qx_ad X this)), some (.int p1), none, none, none, none, none]) (qw_s (qw_s (qw_n (qw_n (qw_n (qw_n (qw_n (qw_0)))))))) h)
              ·
                refine qb_aload_n hX 65 rfl rfl ?_
                refine qb_aload_n hX 66 rfl rfl ?_
                refine qb_get hX 67 rfl fl_Model_204 hthis rfl (fun x18 => ?_)
                refine qb_put hX 68 rfl fp_Model_216 hthis ?_
                refine qb_iconst hX 69 0 rfl (by decide) ?_
                exact qb_zret1 hX 70 rfl hR (by decide) (fun _ h => h)
          · intro s17
            refine qb_aload_n hX 71 rfl rfl ?_
            refine qb_aload_n hX 72 rfl rfl ?_
            refine qb_get hX 73 rfl fl_Model_204 hthis rfl (fun x19 => ?_)
            refine qb_callI hX 74 rfl cv_Model_219 (jm_Model_turnsPage (qk_GI hX) this x19 hthis ) (ci := 9) hthis ⟨rfl, rfl, rfl, by decide, by decide⟩ rfl (by exact Nat.le_of_ble_eq_true rfl) (fun x20 => ?_)
            refine qb_ifne hX 75 142 rfl (by decide) ?_ ?_
            ·
              exact qb_exit (fun σ h => qj_goto hX 78 rfl (by decide) (qj_wk (ρ' := [some (.ref (qx_ad X this)), some (.int p1), none, none, none, none, none]) (qw_s (qw_s (qw_n (qw_n (qw_n (qw_n (qw_n (qw_0)))))))) h))
            ·
              refine qb_iconst hX 76 0 rfl (by decide) ?_
              exact qb_zret1 hX 77 rfl hR (by decide) (fun _ h => h)
    · intro s4
      refine qb_aload_n hX 79 rfl rfl ?_
      refine qb_iload_n hX 80 rfl rfl ?_
      refine qb_callV hX 81 rfl cv_Model_241 (jm_Model_levels (qk_GI hX) this p1 hthis ) (ci := 9) hthis ⟨rfl, rfl, rfl, by decide, by decide⟩ rfl (by exact Nat.le_of_ble_eq_true rfl) ?_
      refine qb_iconst hX 82 1 rfl (by decide) ?_
      exact qb_zret1 hX 83 rfl hR (by decide) (fun _ h => h)
  ·
    refine qb_iconst hX 15 1 rfl (by decide) ?_
    exact qb_zret1 hX 16 rfl hR (by decide) (fun _ h => h)
theorem jm_Model_poursSection {l : Launch} {G : qm_G} (hG : qm_GI G) (this : Nat) (p1 : Int32) (hthis : (qm_kd this).1 = 19) : qm_MI l G jy_Model_poursSection prog_11_method_33_code 7 (some .boolean) 8 201 [.ref (G.1 this), .int p1] (jf_Model_poursSection this p1) :=
  qm_metI (by decide +kernel) jd_Model_poursSection (fun v hv => by simp only [List.mem_cons, List.not_mem_nil, or_false] at hv; rcases hv with rfl | rfl <;> rfl) (by exact Nat.le_of_ble_eq_true rfl) hG rfl (fun X hl hg hX r0 σ0 hR => by subst hl; subst hg; exact jb_Model_poursSection hX hR this p1 hthis)
def jl_Model_pours : List qm_I := [(0, .aload_n 0, 1, 1), (1, .invokevirtual 245, 3, 4), (4, .aload_n 0, 1, 5), (5, .iconst 0, 1, 6), (6, .putfield 198, 3, 9), (9, .aload_n 0, 1, 10), (10, .iconst 0, 1, 11), (11, .putfield 201, 3, 14), (14, .aload_n 0, 1, 15), (15, .iconst (-1), 1, 16), (16, .putfield 216, 3, 19), (19, .aload_n 0, 1, 20), (20, .aload_n 0, 1, 21), (21, .getfield 7, 3, 24), (24, .iconst 1, 1, 25), (25, .iaload, 1, 26), (26, .putfield 210, 3, 29), (29, .iconst 0, 1, 30), (30, .istore_n 1, 1, 31), (31, .iload_n 1, 1, 32), (32, .aload_n 0, 1, 33), (33, .getfield 155, 3, 36), (36, .if_icmp .ge 16, 3, 39), (39, .aload_n 0, 1, 40), (40, .getfield 98, 3, 43), (43, .iload_n 1, 1, 44), (44, .iconst (-1), 1, 45), (45, .iastore, 1, 46), (46, .iinc 1 1, 3, 49), (49, .goto (-18), 3, 52), (52, .iconst 0, 1, 53), (53, .istore_n 1, 1, 54), (54, .iload_n 1, 1, 55), (55, .aload_n 0, 1, 56), (56, .getfield 155, 3, 59), (59, .if_icmp .ge 45, 3, 62), (62, .iload_n 1, 1, 63), (63, .ifCond .le 19, 3, 66), (66, .aload_n 0, 1, 67), (67, .iload_n 1, 1, 68), (68, .invokevirtual 248, 3, 71), (71, .ifCond .ne 11, 3, 74), (74, .bipush (-2), 2, 76), (76, .aload_n 0, 1, 77), (77, .getfield 216, 3, 80), (80, .isub, 1, 81), (81, .ireturn, 1, 82), (82, .aload_n 0, 1, 83), (83, .iload_n 1, 1, 84), (84, .invokevirtual 251, 3, 87), (87, .ifCond .ne 11, 3, 90), (90, .bipush (-2), 2, 92), (92, .aload_n 0, 1, 93), (93, .getfield 216, 3, 96), (96, .isub, 1, 97), (97, .ireturn, 1, 98), (98, .iinc 1 1, 3, 101), (101, .goto (-47), 3, 104), (104, .aload_n 0, 1, 105), (105, .invokevirtual 140, 3, 108), (108, .ifCond .ne 7, 3, 111), (111, .iconst 0, 1, 112), (112, .goto 9, 3, 115), (115, .aload_n 0, 1, 116), (116, .getfield 201, 3, 119), (119, .iconst 1, 1, 120), (120, .iadd, 1, 121), (121, .ireturn, 1, 122)]
theorem jd_Model_pours : qm_D prog_11_method_34_code jl_Model_pours := qm_D_of (by decide +kernel)
noncomputable def jf_Model_pours (this : Nat) : qm_M Int32 :=
  mB (jf_Model_lays this) fun _ =>
  mB (mPt this 32 0) fun _ =>
  mB (mPt this 33 0) fun _ =>
  mB (mPt this 35 (-1)) fun _ =>
  mB (mLd (qm_rf this 0) 1) fun x1 =>
  mB (mPt this 34 x1) fun _ =>
  mB (α := Unit) (
    mW (S := Int32) (α := Unit) (fun s3 =>
      mB (mGt this 16) fun x4 =>
      if x4 ≤ s3 then
        mP (Sum.inr ())
      else
        mB (mSt (qm_rf this 38) s3 (-1)) fun _ =>
        mB (mP (s3 + 1)) fun x5 =>
        mP (Sum.inl x5)) 0) fun s2 =>
  mB (α := (Unit ⊕ Int32)) (
    mW (S := Int32) (α := (Unit ⊕ Int32)) (fun s7 =>
      mB (mGt this 16) fun x8 =>
      if x8 ≤ s7 then
        mP (Sum.inr (Sum.inl ()))
      else
        mB (α := (Unit ⊕ (Int32 ⊕ (Unit ⊕ Int32)))) (
          if s7 ≤ 0 then
            mP (Sum.inl ())
          else
            mB (jf_Model_poursSpan this s7) fun x10 =>
            if ¬ x10 = 0 then
              mP (Sum.inl ())
            else
              mB (mGt this 35) fun x11 =>
              mP (Sum.inr (Sum.inr (Sum.inr ((-2) - x11))))) (Sum.elim (fun s9 =>
          mB (jf_Model_poursSection this s7) fun x12 =>
          if ¬ x12 = 0 then
            mB (mP (s7 + 1)) fun x13 =>
            mP (Sum.inl x13)
          else
            mB (mGt this 35) fun x14 =>
            mP (Sum.inr (Sum.inr ((-2) - x14)))) mP)) 0) (Sum.elim (fun s6 =>
    mB (jf_Model_blocks this) fun x15 =>
    if ¬ x15 = 0 then
      mB (mGt this 33) fun x16 =>
      mP (x16 + 1)
    else
      mP 0) mP)
set_option maxRecDepth 20000 in
set_option maxHeartbeats 4000000 in
theorem jb_Model_pours {X : qm_X} (hX : qm_ok X qr_Model prog_11_method_34_code 2 9 227 jl_Model_pours) {r0 : Int32} {σ0 : qm_Mem} (hR : qm_RI X r0 σ0 .int) (this : Nat) (hthis : (qm_kd this).1 = 19) : qm_B X (jf_Model_pours this) 0 [some (.ref (qx_ad X this)), none] [] (fun r σ1 => r = r0 ∧ σ1 = σ0) := by
  unfold jf_Model_pours
  refine qb_aload_n hX 0 rfl rfl ?_
  refine qb_callV hX 1 rfl cv_Model_245 (jm_Model_lays (qk_GI hX) this  hthis ) (ci := 9) hthis ⟨rfl, rfl, rfl, by decide, by decide⟩ rfl (by exact Nat.le_of_ble_eq_true rfl) ?_
  refine qb_aload_n hX 2 rfl rfl ?_
  refine qb_iconst hX 3 0 rfl (by decide) ?_
  refine qb_put hX 4 rfl fp_Model_198 hthis ?_
  refine qb_aload_n hX 5 rfl rfl ?_
  refine qb_iconst hX 6 0 rfl (by decide) ?_
  refine qb_put hX 7 rfl fp_Model_201 hthis ?_
  refine qb_aload_n hX 8 rfl rfl ?_
  refine qb_iconst hX 9 (-1) rfl (by decide) ?_
  refine qb_put hX 10 rfl fp_Model_216 hthis ?_
  refine qb_aload_n hX 11 rfl rfl ?_
  refine qb_aload_n hX 12 rfl rfl ?_
  refine qb_getR hX 13 rfl fl_Model_7 hthis rfl ?_
  refine qb_iconst hX 14 1 rfl (by decide) ?_
  refine qb_iald hX 15 rfl (kf_Model_0 hthis) (fun x1 => ?_)
  refine qb_put hX 16 rfl fp_Model_210 hthis ?_
  refine qb_iconst hX 17 0 rfl (by decide) ?_
  refine qb_istore_n hX 18 ([some (.ref (qx_ad X this)), some (.int 0)]) rfl (by decide) rfl ?_
  refine qb_join 52 (fun s2 => [some (.ref (qx_ad X this)), none]) (fun s2 => []) ?_ ?_
  ·
    refine qb_loopw (0) (fun s3 => [some (.ref (qx_ad X this)), some (.int s3)]) (qw_s (qw_s (qw_0))) (fun s3 => ?_)
    refine qb_iload_n hX 19 rfl rfl ?_
    refine qb_aload_n hX 20 rfl rfl ?_
    refine qb_get hX 21 rfl fl_Model_155 hthis rfl (fun x4 => ?_)
    refine qb_icge hX 22 52 rfl (by decide) ?_ ?_
    ·
      exact qb_exit (fun σ h => qj_wk (ρ' := [some (.ref (qx_ad X this)), none]) (qw_s (qw_n (qw_0))) h)
    ·
      refine qb_aload_n hX 23 rfl rfl ?_
      refine qb_getR hX 24 rfl fl_Model_98 hthis rfl ?_
      refine qb_iload_n hX 25 rfl rfl ?_
      refine qb_iconst hX 26 (-1) rfl (by decide) ?_
      refine qb_iast hX 27 rfl (kf_Model_38 hthis) ?_
      refine qb_iinc hX 28 1 (fun x5 => [some (.ref (qx_ad X this)), some (.int x5)]) rfl (by decide) (by decide) rfl (fun _ => rfl) (fun x5 => ?_)
      exact qb_exit (fun σ h => qj_goto hX 29 rfl (by decide) (qj_wk (ρ' := [some (.ref (qx_ad X this)), some (.int x5)]) (qw_s (qw_s (qw_0))) h))
  · intro s2
    refine qb_iconst hX 30 0 rfl (by decide) ?_
    refine qb_istore_n hX 31 ([some (.ref (qx_ad X this)), some (.int 0)]) rfl (by decide) rfl ?_
    refine qb_join2 104 (fun s6 => [some (.ref (qx_ad X this)), none]) (fun s6 => []) ?_ ?_
    ·
      refine qb_loopw (0) (fun s7 => [some (.ref (qx_ad X this)), some (.int s7)]) (qw_s (qw_s (qw_0))) (fun s7 => ?_)
      refine qb_iload_n hX 32 rfl rfl ?_
      refine qb_aload_n hX 33 rfl rfl ?_
      refine qb_get hX 34 rfl fl_Model_155 hthis rfl (fun x8 => ?_)
      refine qb_icge hX 35 104 rfl (by decide) ?_ ?_
      ·
        exact qb_exit (fun σ h => qj_wk (ρ' := [some (.ref (qx_ad X this)), none]) (qw_s (qw_n (qw_0))) h)
      ·
        refine qb_iload_n hX 36 rfl rfl ?_
        refine qb_join2 82 (fun s9 => [some (.ref (qx_ad X this)), some (.int s7)]) (fun s9 => []) ?_ ?_
        ·
          refine qb_ifle hX 37 82 rfl (by decide) ?_ ?_
          ·
            exact qb_exit (fun σ h => qj_wk (ρ' := [some (.ref (qx_ad X this)), some (.int s7)]) (qw_s (qw_s (qw_0))) h)
          ·
            refine qb_aload_n hX 38 rfl rfl ?_
            refine qb_iload_n hX 39 rfl rfl ?_
            refine qb_callI hX 40 rfl cv_Model_248 (jm_Model_poursSpan (qk_GI hX) this s7 hthis ) (ci := 9) hthis ⟨rfl, rfl, rfl, by decide, by decide⟩ rfl (by exact Nat.le_of_ble_eq_true rfl) (fun x10 => ?_)
            refine qb_ifne hX 41 82 rfl (by decide) ?_ ?_
            ·
              exact qb_exit (fun σ h => qj_wk (ρ' := [some (.ref (qx_ad X this)), some (.int s7)]) (qw_s (qw_s (qw_0))) h)
            ·
              refine qb_bipush hX 42 (-2) rfl (by decide) ?_
              refine qb_aload_n hX 43 rfl rfl ?_
              refine qb_get hX 44 rfl fl_Model_216 hthis rfl (fun x11 => ?_)
              refine qb_isub hX 45 rfl ?_
              exact qb_iret hX 46 rfl hR (fun _ h => h)
        · intro s9
          refine qb_aload_n hX 47 rfl rfl ?_
          refine qb_iload_n hX 48 rfl rfl ?_
          refine qb_callI hX 49 rfl cv_Model_251 (jm_Model_poursSection (qk_GI hX) this s7 hthis ) (ci := 9) hthis ⟨rfl, rfl, rfl, by decide, by decide⟩ rfl (by exact Nat.le_of_ble_eq_true rfl) (fun x12 => ?_)
          refine qb_ifne hX 50 98 rfl (by decide) ?_ ?_
          ·
            refine qb_iinc hX 56 1 (fun x13 => [some (.ref (qx_ad X this)), some (.int x13)]) rfl (by decide) (by decide) rfl (fun _ => rfl) (fun x13 => ?_)
            exact qb_exit (fun σ h => qj_goto hX 57 rfl (by decide) (qj_wk (ρ' := [some (.ref (qx_ad X this)), some (.int x13)]) (qw_s (qw_s (qw_0))) h))
          ·
            refine qb_bipush hX 51 (-2) rfl (by decide) ?_
            refine qb_aload_n hX 52 rfl rfl ?_
            refine qb_get hX 53 rfl fl_Model_216 hthis rfl (fun x14 => ?_)
            refine qb_isub hX 54 rfl ?_
            exact qb_iret hX 55 rfl hR (fun _ h => h)
    · intro s6
      refine qb_aload_n hX 58 rfl rfl ?_
      refine qb_callI hX 59 rfl cv_Model_140 (jm_Model_blocks (qk_GI hX) this  hthis ) (ci := 9) hthis ⟨rfl, rfl, rfl, by decide, by decide⟩ rfl (by exact Nat.le_of_ble_eq_true rfl) (fun x15 => ?_)
      refine qb_ifne hX 60 115 rfl (by decide) ?_ ?_
      ·
        refine qb_aload_n hX 63 rfl rfl ?_
        refine qb_get hX 64 rfl fl_Model_201 hthis rfl (fun x16 => ?_)
        refine qb_iconst hX 65 1 rfl (by decide) ?_
        refine qb_iadd hX 66 rfl ?_
        exact qb_iret hX 67 rfl hR (fun _ h => h)
      ·
        refine qb_iconst hX 61 0 rfl (by decide) ?_
        refine qb_goto hX 62 (tgt := 121) rfl (by decide) ?_
        exact qb_iret hX 67 rfl hR (fun _ h => h)
theorem jm_Model_pours {l : Launch} {G : qm_G} (hG : qm_GI G) (this : Nat) (hthis : (qm_kd this).1 = 19) : qm_MI l G jy_Model_pours prog_11_method_34_code 2 (some .int) 9 227 [.ref (G.1 this)] (jf_Model_pours this) :=
  qm_metI (by decide +kernel) jd_Model_pours (fun v hv => by simp only [List.mem_cons, List.not_mem_nil, or_false] at hv; rcases hv with rfl <;> rfl) (by exact Nat.le_of_ble_eq_true rfl) hG rfl (fun X hl hg hX r0 σ0 hR => by subst hl; subst hg; exact jb_Model_pours hX hR this hthis)
def jl_Model_pour : List qm_I := [(0, .aload_n 0, 1, 1), (1, .invokevirtual 254, 3, 4), (4, .ireturn, 1, 5)]
theorem jd_Model_pour : qm_D prog_11_method_35_code jl_Model_pour := qm_D_of (by decide +kernel)
noncomputable def jf_Model_pour (this : Nat) : qm_M Int32 :=
  mB (jf_Model_pours this) fun x1 =>
  mP x1
set_option maxRecDepth 20000 in
set_option maxHeartbeats 4000000 in
theorem jb_Model_pour {X : qm_X} (hX : qm_ok X qr_Model prog_11_method_35_code 1 10 248 jl_Model_pour) {r0 : Int32} {σ0 : qm_Mem} (hR : qm_RI X r0 σ0 .int) (this : Nat) (hthis : (qm_kd this).1 = 19) : qm_B X (jf_Model_pour this) 0 [some (.ref (qx_ad X this))] [] (fun r σ1 => r = r0 ∧ σ1 = σ0) := by
  unfold jf_Model_pour
  refine qb_aload_n hX 0 rfl rfl ?_
  refine qb_callI hX 1 rfl cv_Model_254 (jm_Model_pours (qk_GI hX) this  hthis ) (ci := 9) hthis ⟨rfl, rfl, rfl, by decide, by decide⟩ rfl (by exact Nat.le_of_ble_eq_true rfl) (fun x1 => ?_)
  exact qb_iret hX 2 rfl hR (fun _ h => h)
theorem jm_Model_pour {l : Launch} {G : qm_G} (hG : qm_GI G) (this : Nat) (hthis : (qm_kd this).1 = 19) : qm_MI l G jy_Model_pour prog_11_method_35_code 1 (some .int) 10 248 [.ref (G.1 this)] (jf_Model_pour this) :=
  qm_metI (by decide +kernel) jd_Model_pour (fun v hv => by simp only [List.mem_cons, List.not_mem_nil, or_false] at hv; rcases hv with rfl <;> rfl) (by exact Nat.le_of_ble_eq_true rfl) hG rfl (fun X hl hg hX r0 σ0 hR => by subst hl; subst hg; exact jb_Model_pour hX hR this hthis)
def jl_Model_isNoted : List qm_I := [(0, .aload_n 0, 1, 1), (1, .aload_n 0, 1, 2), (2, .getfield 80, 3, 5), (5, .iload_n 1, 1, 6), (6, .iaload, 1, 7), (7, .aload_n 0, 1, 8), (8, .getfield 83, 3, 11), (11, .iload_n 1, 1, 12), (12, .iaload, 1, 13), (13, .invokevirtual 172, 3, 16), (16, .aload_n 0, 1, 17), (17, .getfield 86, 3, 20), (20, .iload_n 1, 1, 21), (21, .iaload, 1, 22), (22, .iadd, 1, 23), (23, .ifCond .le 7, 3, 26), (26, .iconst 1, 1, 27), (27, .goto 4, 3, 30), (30, .iconst 0, 1, 31), (31, .ireturn, 1, 32)]
theorem jd_Model_isNoted : qm_D prog_11_method_36_code jl_Model_isNoted := qm_D_of (by decide +kernel)
noncomputable def jf_Model_isNoted (this : Nat) (p1 : Int32) : qm_M Int32 :=
  mB (mLd (qm_rf this 26) p1) fun x1 =>
  mB (mLd (qm_rf this 27) p1) fun x2 =>
  mB (jf_Model_ownOf this x1 x2) fun x3 =>
  mB (mLd (qm_rf this 28) p1) fun x4 =>
  if (x3 + x4) ≤ 0 then
    mP 0
  else
    mP 1
set_option maxRecDepth 20000 in
set_option maxHeartbeats 4000000 in
theorem jb_Model_isNoted {X : qm_X} (hX : qm_ok X qr_Model prog_11_method_36_code 2 1 22 jl_Model_isNoted) {r0 : Int32} {σ0 : qm_Mem} (hR : qm_RI X r0 σ0 .boolean) (this : Nat) (p1 : Int32) (hthis : (qm_kd this).1 = 19) : qm_B X (jf_Model_isNoted this p1) 0 [some (.ref (qx_ad X this)), some (.int p1)] [] (fun r σ1 => r = r0 ∧ σ1 = σ0) := by
  unfold jf_Model_isNoted
  refine qb_aload_n hX 0 rfl rfl ?_
  refine qb_aload_n hX 1 rfl rfl ?_
  refine qb_getR hX 2 rfl fl_Model_80 hthis rfl ?_
  refine qb_iload_n hX 3 rfl rfl ?_
  refine qb_iald hX 4 rfl (kf_Model_26 hthis) (fun x1 => ?_)
  refine qb_aload_n hX 5 rfl rfl ?_
  refine qb_getR hX 6 rfl fl_Model_83 hthis rfl ?_
  refine qb_iload_n hX 7 rfl rfl ?_
  refine qb_iald hX 8 rfl (kf_Model_27 hthis) (fun x2 => ?_)
  refine qb_callI hX 9 rfl cv_Model_172 (jm_Model_ownOf (qk_GI hX) this x1 x2 hthis ) (ci := 9) hthis ⟨rfl, rfl, rfl, by decide, by decide⟩ rfl (by exact Nat.le_of_ble_eq_true rfl) (fun x3 => ?_)
  refine qb_aload_n hX 10 rfl rfl ?_
  refine qb_getR hX 11 rfl fl_Model_86 hthis rfl ?_
  refine qb_iload_n hX 12 rfl rfl ?_
  refine qb_iald hX 13 rfl (kf_Model_28 hthis) (fun x4 => ?_)
  refine qb_iadd hX 14 rfl ?_
  refine qb_ifle hX 15 30 rfl (by decide) ?_ ?_
  ·
    refine qb_iconst hX 18 0 rfl (by decide) ?_
    exact qb_zret1 hX 19 rfl hR (by decide) (fun _ h => h)
  ·
    refine qb_iconst hX 16 1 rfl (by decide) ?_
    refine qb_goto hX 17 (tgt := 31) rfl (by decide) ?_
    exact qb_zret1 hX 19 rfl hR (by decide) (fun _ h => h)
theorem jm_Model_isNoted {l : Launch} {G : qm_G} (hG : qm_GI G) (this : Nat) (p1 : Int32) (hthis : (qm_kd this).1 = 19) : qm_MI l G jy_Model_isNoted prog_11_method_36_code 2 (some .boolean) 1 22 [.ref (G.1 this), .int p1] (jf_Model_isNoted this p1) :=
  qm_metI (by decide +kernel) jd_Model_isNoted (fun v hv => by simp only [List.mem_cons, List.not_mem_nil, or_false] at hv; rcases hv with rfl | rfl <;> rfl) (by exact Nat.le_of_ble_eq_true rfl) hG rfl (fun X hl hg hX r0 σ0 hR => by subst hl; subst hg; exact jb_Model_isNoted hX hR this p1 hthis)
def jl_Model_linesIn : List qm_I := [(0, .aload_n 0, 1, 1), (1, .aload_n 0, 1, 2), (2, .getfield 80, 3, 5), (5, .iload_n 1, 1, 6), (6, .iaload, 1, 7), (7, .aload_n 0, 1, 8), (8, .getfield 83, 3, 11), (11, .iload_n 1, 1, 12), (12, .iaload, 1, 13), (13, .aload_n 0, 1, 14), (14, .getfield 86, 3, 17), (17, .iload_n 1, 1, 18), (18, .iaload, 1, 19), (19, .aload_n 0, 1, 20), (20, .getfield 92, 3, 23), (23, .iload_n 1, 1, 24), (24, .iaload, 1, 25), (25, .invokevirtual 213, 3, 28), (28, .ireturn, 1, 29)]
theorem jd_Model_linesIn : qm_D prog_11_method_37_code jl_Model_linesIn := qm_D_of (by decide +kernel)
noncomputable def jf_Model_linesIn (this : Nat) (p1 : Int32) : qm_M Int32 :=
  mB (mLd (qm_rf this 26) p1) fun x1 =>
  mB (mLd (qm_rf this 27) p1) fun x2 =>
  mB (mLd (qm_rf this 28) p1) fun x3 =>
  mB (mLd (qm_rf this 30) p1) fun x4 =>
  mB (jf_Model_standsOf this x1 x2 x3 x4) fun x5 =>
  mP x5
set_option maxRecDepth 20000 in
set_option maxHeartbeats 4000000 in
theorem jb_Model_linesIn {X : qm_X} (hX : qm_ok X qr_Model prog_11_method_37_code 2 4 95 jl_Model_linesIn) {r0 : Int32} {σ0 : qm_Mem} (hR : qm_RI X r0 σ0 .int) (this : Nat) (p1 : Int32) (hthis : (qm_kd this).1 = 19) : qm_B X (jf_Model_linesIn this p1) 0 [some (.ref (qx_ad X this)), some (.int p1)] [] (fun r σ1 => r = r0 ∧ σ1 = σ0) := by
  unfold jf_Model_linesIn
  refine qb_aload_n hX 0 rfl rfl ?_
  refine qb_aload_n hX 1 rfl rfl ?_
  refine qb_getR hX 2 rfl fl_Model_80 hthis rfl ?_
  refine qb_iload_n hX 3 rfl rfl ?_
  refine qb_iald hX 4 rfl (kf_Model_26 hthis) (fun x1 => ?_)
  refine qb_aload_n hX 5 rfl rfl ?_
  refine qb_getR hX 6 rfl fl_Model_83 hthis rfl ?_
  refine qb_iload_n hX 7 rfl rfl ?_
  refine qb_iald hX 8 rfl (kf_Model_27 hthis) (fun x2 => ?_)
  refine qb_aload_n hX 9 rfl rfl ?_
  refine qb_getR hX 10 rfl fl_Model_86 hthis rfl ?_
  refine qb_iload_n hX 11 rfl rfl ?_
  refine qb_iald hX 12 rfl (kf_Model_28 hthis) (fun x3 => ?_)
  refine qb_aload_n hX 13 rfl rfl ?_
  refine qb_getR hX 14 rfl fl_Model_92 hthis rfl ?_
  refine qb_iload_n hX 15 rfl rfl ?_
  refine qb_iald hX 16 rfl (kf_Model_30 hthis) (fun x4 => ?_)
  refine qb_callI hX 17 rfl cv_Model_213 (jm_Model_standsOf (qk_GI hX) this x1 x2 x3 x4 hthis ) (ci := 9) hthis ⟨rfl, rfl, rfl, by decide, by decide⟩ rfl (by exact Nat.le_of_ble_eq_true rfl) (fun x5 => ?_)
  exact qb_iret hX 18 rfl hR (fun _ h => h)
theorem jm_Model_linesIn {l : Launch} {G : qm_G} (hG : qm_GI G) (this : Nat) (p1 : Int32) (hthis : (qm_kd this).1 = 19) : qm_MI l G jy_Model_linesIn prog_11_method_37_code 2 (some .int) 4 95 [.ref (G.1 this), .int p1] (jf_Model_linesIn this p1) :=
  qm_metI (by decide +kernel) jd_Model_linesIn (fun v hv => by simp only [List.mem_cons, List.not_mem_nil, or_false] at hv; rcases hv with rfl | rfl <;> rfl) (by exact Nat.le_of_ble_eq_true rfl) hG rfl (fun X hl hg hX r0 σ0 hR => by subst hl; subst hg; exact jb_Model_linesIn hX hR this p1 hthis)
def jl_Model_column : List qm_I := [(0, .aload_n 0, 1, 1), (1, .invokevirtual 254, 3, 4), (4, .istore_n 3, 1, 5), (5, .iload_n 1, 1, 6), (6, .iconst (-1), 1, 7), (7, .if_icmp .ne 12, 3, 10), (10, .iload_n 2, 1, 11), (11, .ifCond .ne 8, 3, 14), (14, .aload_n 0, 1, 15), (15, .getfield 198, 3, 18), (18, .ireturn, 1, 19), (19, .iload_n 1, 1, 20), (20, .i2l, 1, 21), (21, .lconst 0, 1, 22), (22, .aload_n 0, 1, 23), (23, .getfield 198, 3, 26), (26, .iconst 1, 1, 27), (27, .isub, 1, 28), (28, .i2l, 1, 29), (29, .invokestatic 129, 3, 32), (32, .ifCond .ne 5, 3, 35), (35, .iconst (-1), 1, 36), (36, .ireturn, 1, 37), (37, .iload_n 2, 1, 38), (38, .tableswitch 173 0 11 #[62, 69, 76, 83, 90, 97, 114, 121, 138, 144, 151, 158], 62, 100), (100, .aload_n 0, 1, 101), (101, .getfield 71, 3, 104), (104, .iload_n 1, 1, 105), (105, .iaload, 1, 106), (106, .ireturn, 1, 107), (107, .aload_n 0, 1, 108), (108, .getfield 74, 3, 111), (111, .iload_n 1, 1, 112), (112, .iaload, 1, 113), (113, .ireturn, 1, 114), (114, .aload_n 0, 1, 115), (115, .getfield 77, 3, 118), (118, .iload_n 1, 1, 119), (119, .iaload, 1, 120), (120, .ireturn, 1, 121), (121, .aload_n 0, 1, 122), (122, .getfield 80, 3, 125), (125, .iload_n 1, 1, 126), (126, .iaload, 1, 127), (127, .ireturn, 1, 128), (128, .aload_n 0, 1, 129), (129, .getfield 83, 3, 132), (132, .iload_n 1, 1, 133), (133, .iaload, 1, 134), (134, .ireturn, 1, 135), (135, .aload_n 0, 1, 136), (136, .aload_n 0, 1, 137), (137, .getfield 80, 3, 140), (140, .iload_n 1, 1, 141), (141, .iaload, 1, 142), (142, .aload_n 0, 1, 143), (143, .getfield 83, 3, 146), (146, .iload_n 1, 1, 147), (147, .iaload, 1, 148), (148, .invokevirtual 169, 3, 151), (151, .ireturn, 1, 152), (152, .aload_n 0, 1, 153), (153, .getfield 86, 3, 156), (156, .iload_n 1, 1, 157), (157, .iaload, 1, 158), (158, .ireturn, 1, 159), (159, .aload_n 0, 1, 160), (160, .aload_n 0, 1, 161), (161, .getfield 80, 3, 164), (164, .iload_n 1, 1, 165), (165, .iaload, 1, 166), (166, .aload_n 0, 1, 167), (167, .getfield 83, 3, 170), (170, .iload_n 1, 1, 171), (171, .iaload, 1, 172), (172, .invokevirtual 172, 3, 175), (175, .ireturn, 1, 176), (176, .aload_n 0, 1, 177), (177, .iload_n 1, 1, 178), (178, .invokevirtual 257, 3, 181), (181, .ireturn, 1, 182), (182, .aload_n 0, 1, 183), (183, .getfield 89, 3, 186), (186, .iload_n 1, 1, 187), (187, .iaload, 1, 188), (188, .ireturn, 1, 189), (189, .aload_n 0, 1, 190), (190, .getfield 92, 3, 193), (193, .iload_n 1, 1, 194), (194, .iaload, 1, 195), (195, .ireturn, 1, 196), (196, .aload_n 0, 1, 197), (197, .getfield 95, 3, 200), (200, .iload_n 1, 1, 201), (201, .baload, 1, 202), (202, .ifCond .eq 7, 3, 205), (205, .iconst 1, 1, 206), (206, .goto 4, 3, 209), (209, .iconst 0, 1, 210), (210, .ireturn, 1, 211), (211, .iconst (-1), 1, 212), (212, .ireturn, 1, 213)]
theorem jd_Model_column : qm_D prog_11_method_38_code jl_Model_column := qm_D_of (by decide +kernel)
noncomputable def jf_Model_column (this : Nat) (p1 : Int32) (p2 : Int32) : qm_M Int32 :=
  mB (jf_Model_pours this) fun x1 =>
  mB (α := (Unit ⊕ Int32)) (
    if ¬ p1 = (-1) then
      mP (Sum.inl ())
    else
      if ¬ p2 = 0 then
        mP (Sum.inl ())
      else
        mB (mGt this 32) fun x3 =>
        mP (Sum.inr x3)) (Sum.elim (fun s2 =>
    mB (mGt this 32) fun x4 =>
    mB (jf_Model_in (Int32.toInt64 p1) (0 : Int64) (Int32.toInt64 (x4 - 1))) fun x5 =>
    if ¬ x5 = 0 then
      if p2 = 0 then
        mB (mLd (qm_rf this 23) p1) fun x6 =>
        mP x6
      else
      if p2 = 1 then
        mB (mLd (qm_rf this 24) p1) fun x7 =>
        mP x7
      else
      if p2 = 2 then
        mB (mLd (qm_rf this 25) p1) fun x8 =>
        mP x8
      else
      if p2 = 3 then
        mB (mLd (qm_rf this 26) p1) fun x9 =>
        mP x9
      else
      if p2 = 4 then
        mB (mLd (qm_rf this 27) p1) fun x10 =>
        mP x10
      else
      if p2 = 5 then
        mB (mLd (qm_rf this 26) p1) fun x11 =>
        mB (mLd (qm_rf this 27) p1) fun x12 =>
        mB (jf_Model_textOf this x11 x12) fun x13 =>
        mP x13
      else
      if p2 = 6 then
        mB (mLd (qm_rf this 28) p1) fun x14 =>
        mP x14
      else
      if p2 = 7 then
        mB (mLd (qm_rf this 26) p1) fun x15 =>
        mB (mLd (qm_rf this 27) p1) fun x16 =>
        mB (jf_Model_ownOf this x15 x16) fun x17 =>
        mP x17
      else
      if p2 = 8 then
        mB (jf_Model_linesIn this p1) fun x18 =>
        mP x18
      else
      if p2 = 9 then
        mB (mLd (qm_rf this 29) p1) fun x19 =>
        mP x19
      else
      if p2 = 10 then
        mB (mLd (qm_rf this 30) p1) fun x20 =>
        mP x20
      else
      if p2 = 11 then
        mB (mLd (qm_rf this 31) p1) fun x21 =>
        if x21 = 0 then
          mP 0
        else
          mP 1
      else
      mP (-1)
    else
      mP (-1)) mP)
set_option maxRecDepth 20000 in
set_option maxHeartbeats 4000000 in
theorem jb_Model_column {X : qm_X} (hX : qm_ok X qr_Model prog_11_method_38_code 4 10 248 jl_Model_column) {r0 : Int32} {σ0 : qm_Mem} (hR : qm_RI X r0 σ0 .int) (this : Nat) (p1 : Int32) (p2 : Int32) (hthis : (qm_kd this).1 = 19) : qm_B X (jf_Model_column this p1 p2) 0 [some (.ref (qx_ad X this)), some (.int p1), some (.int p2), none] [] (fun r σ1 => r = r0 ∧ σ1 = σ0) := by
  unfold jf_Model_column
  refine qb_aload_n hX 0 rfl rfl ?_
  refine qb_callI hX 1 rfl cv_Model_254 (jm_Model_pours (qk_GI hX) this  hthis ) (ci := 9) hthis ⟨rfl, rfl, rfl, by decide, by decide⟩ rfl (by exact Nat.le_of_ble_eq_true rfl) (fun x1 => ?_)
  refine qb_istore_n hX 2 ([some (.ref (qx_ad X this)), some (.int p1), some (.int p2), some (.int x1)]) rfl (by decide) rfl ?_
  refine qb_iload_n hX 3 rfl rfl ?_
  refine qb_iconst hX 4 (-1) rfl (by decide) ?_
  refine qb_join2 19 (fun s2 => [some (.ref (qx_ad X this)), some (.int p1), some (.int p2), none]) (fun s2 => []) ?_ ?_
  ·
    refine qb_icne hX 5 19 rfl (by decide) ?_ ?_
    ·
      exact qb_exit (fun σ h => qj_wk (ρ' := [some (.ref (qx_ad X this)), some (.int p1), some (.int p2), none]) (qw_s (qw_s (qw_s (qw_n (qw_0))))) h)
    ·
      refine qb_iload_n hX 6 rfl rfl ?_
      refine qb_ifne hX 7 19 rfl (by decide) ?_ ?_
      ·
        exact qb_exit (fun σ h => qj_wk (ρ' := [some (.ref (qx_ad X this)), some (.int p1), some (.int p2), none]) (qw_s (qw_s (qw_s (qw_n (qw_0))))) h)
      ·
        refine qb_aload_n hX 8 rfl rfl ?_
        refine qb_get hX 9 rfl fl_Model_198 hthis rfl (fun x3 => ?_)
        exact qb_iret hX 10 rfl hR (fun _ h => h)
  · intro s2
    refine qb_iload_n hX 11 rfl rfl ?_
    refine qb_i2l hX 12 rfl ?_
    refine qb_lconst hX 13 0 rfl (by decide) ?_
    refine qb_aload_n hX 14 rfl rfl ?_
    refine qb_get hX 15 rfl fl_Model_198 hthis rfl (fun x4 => ?_)
    refine qb_iconst hX 16 1 rfl (by decide) ?_
    refine qb_isub hX 17 rfl ?_
    refine qb_i2l hX 18 rfl ?_
    refine qb_calSI hX 19 rfl cv_Model_129 (jm_Model_in (qk_GI hX) (Int32.toInt64 p1) (0 : Int64) (Int32.toInt64 (x4 - 1)) ) ⟨rfl, by decide, by decide⟩ rfl (by exact Nat.le_of_ble_eq_true rfl) (fun x5 => ?_)
    refine qb_ifne hX 20 37 rfl (by decide) ?_ ?_
    ·
      refine qb_iload_n hX 23 rfl rfl ?_
      refine qb_swc 0 ?_ (fun h0 => ?_)
      ·
        refine qb_tin hX 24 100 rfl (by decide) (by decide) rfl (by decide) ?_
        refine qb_aload_n hX 25 rfl rfl ?_
        refine qb_getR hX 26 rfl fl_Model_71 hthis rfl ?_
        refine qb_iload_n hX 27 rfl rfl ?_
        refine qb_iald hX 28 rfl (kf_Model_23 hthis) (fun x6 => ?_)
        exact qb_iret hX 29 rfl hR (fun _ h => h)
      refine qb_swc 1 ?_ (fun h1 => ?_)
      ·
        refine qb_tin hX 24 107 rfl (by decide) (by decide) rfl (by decide) ?_
        refine qb_aload_n hX 30 rfl rfl ?_
        refine qb_getR hX 31 rfl fl_Model_74 hthis rfl ?_
        refine qb_iload_n hX 32 rfl rfl ?_
        refine qb_iald hX 33 rfl (kf_Model_24 hthis) (fun x7 => ?_)
        exact qb_iret hX 34 rfl hR (fun _ h => h)
      refine qb_swc 2 ?_ (fun h2 => ?_)
      ·
        refine qb_tin hX 24 114 rfl (by decide) (by decide) rfl (by decide) ?_
        refine qb_aload_n hX 35 rfl rfl ?_
        refine qb_getR hX 36 rfl fl_Model_77 hthis rfl ?_
        refine qb_iload_n hX 37 rfl rfl ?_
        refine qb_iald hX 38 rfl (kf_Model_25 hthis) (fun x8 => ?_)
        exact qb_iret hX 39 rfl hR (fun _ h => h)
      refine qb_swc 3 ?_ (fun h3 => ?_)
      ·
        refine qb_tin hX 24 121 rfl (by decide) (by decide) rfl (by decide) ?_
        refine qb_aload_n hX 40 rfl rfl ?_
        refine qb_getR hX 41 rfl fl_Model_80 hthis rfl ?_
        refine qb_iload_n hX 42 rfl rfl ?_
        refine qb_iald hX 43 rfl (kf_Model_26 hthis) (fun x9 => ?_)
        exact qb_iret hX 44 rfl hR (fun _ h => h)
      refine qb_swc 4 ?_ (fun h4 => ?_)
      ·
        refine qb_tin hX 24 128 rfl (by decide) (by decide) rfl (by decide) ?_
        refine qb_aload_n hX 45 rfl rfl ?_
        refine qb_getR hX 46 rfl fl_Model_83 hthis rfl ?_
        refine qb_iload_n hX 47 rfl rfl ?_
        refine qb_iald hX 48 rfl (kf_Model_27 hthis) (fun x10 => ?_)
        exact qb_iret hX 49 rfl hR (fun _ h => h)
      refine qb_swc 5 ?_ (fun h5 => ?_)
      ·
        refine qb_tin hX 24 135 rfl (by decide) (by decide) rfl (by decide) ?_
        refine qb_aload_n hX 50 rfl rfl ?_
        refine qb_aload_n hX 51 rfl rfl ?_
        refine qb_getR hX 52 rfl fl_Model_80 hthis rfl ?_
        refine qb_iload_n hX 53 rfl rfl ?_
        refine qb_iald hX 54 rfl (kf_Model_26 hthis) (fun x11 => ?_)
        refine qb_aload_n hX 55 rfl rfl ?_
        refine qb_getR hX 56 rfl fl_Model_83 hthis rfl ?_
        refine qb_iload_n hX 57 rfl rfl ?_
        refine qb_iald hX 58 rfl (kf_Model_27 hthis) (fun x12 => ?_)
        refine qb_callI hX 59 rfl cv_Model_169 (jm_Model_textOf (qk_GI hX) this x11 x12 hthis ) (ci := 9) hthis ⟨rfl, rfl, rfl, by decide, by decide⟩ rfl (by exact Nat.le_of_ble_eq_true rfl) (fun x13 => ?_)
        exact qb_iret hX 60 rfl hR (fun _ h => h)
      refine qb_swc 6 ?_ (fun h6 => ?_)
      ·
        refine qb_tin hX 24 152 rfl (by decide) (by decide) rfl (by decide) ?_
        refine qb_aload_n hX 61 rfl rfl ?_
        refine qb_getR hX 62 rfl fl_Model_86 hthis rfl ?_
        refine qb_iload_n hX 63 rfl rfl ?_
        refine qb_iald hX 64 rfl (kf_Model_28 hthis) (fun x14 => ?_)
        exact qb_iret hX 65 rfl hR (fun _ h => h)
      refine qb_swc 7 ?_ (fun h7 => ?_)
      ·
        refine qb_tin hX 24 159 rfl (by decide) (by decide) rfl (by decide) ?_
        refine qb_aload_n hX 66 rfl rfl ?_
        refine qb_aload_n hX 67 rfl rfl ?_
        refine qb_getR hX 68 rfl fl_Model_80 hthis rfl ?_
        refine qb_iload_n hX 69 rfl rfl ?_
        refine qb_iald hX 70 rfl (kf_Model_26 hthis) (fun x15 => ?_)
        refine qb_aload_n hX 71 rfl rfl ?_
        refine qb_getR hX 72 rfl fl_Model_83 hthis rfl ?_
        refine qb_iload_n hX 73 rfl rfl ?_
        refine qb_iald hX 74 rfl (kf_Model_27 hthis) (fun x16 => ?_)
        refine qb_callI hX 75 rfl cv_Model_172 (jm_Model_ownOf (qk_GI hX) this x15 x16 hthis ) (ci := 9) hthis ⟨rfl, rfl, rfl, by decide, by decide⟩ rfl (by exact Nat.le_of_ble_eq_true rfl) (fun x17 => ?_)
        exact qb_iret hX 76 rfl hR (fun _ h => h)
      refine qb_swc 8 ?_ (fun h8 => ?_)
      ·
        refine qb_tin hX 24 176 rfl (by decide) (by decide) rfl (by decide) ?_
        refine qb_aload_n hX 77 rfl rfl ?_
        refine qb_iload_n hX 78 rfl rfl ?_
        refine qb_callI hX 79 rfl cv_Model_257 (jm_Model_linesIn (qk_GI hX) this p1 hthis ) (ci := 9) hthis ⟨rfl, rfl, rfl, by decide, by decide⟩ rfl (by exact Nat.le_of_ble_eq_true rfl) (fun x18 => ?_)
        exact qb_iret hX 80 rfl hR (fun _ h => h)
      refine qb_swc 9 ?_ (fun h9 => ?_)
      ·
        refine qb_tin hX 24 182 rfl (by decide) (by decide) rfl (by decide) ?_
        refine qb_aload_n hX 81 rfl rfl ?_
        refine qb_getR hX 82 rfl fl_Model_89 hthis rfl ?_
        refine qb_iload_n hX 83 rfl rfl ?_
        refine qb_iald hX 84 rfl (kf_Model_29 hthis) (fun x19 => ?_)
        exact qb_iret hX 85 rfl hR (fun _ h => h)
      refine qb_swc 10 ?_ (fun h10 => ?_)
      ·
        refine qb_tin hX 24 189 rfl (by decide) (by decide) rfl (by decide) ?_
        refine qb_aload_n hX 86 rfl rfl ?_
        refine qb_getR hX 87 rfl fl_Model_92 hthis rfl ?_
        refine qb_iload_n hX 88 rfl rfl ?_
        refine qb_iald hX 89 rfl (kf_Model_30 hthis) (fun x20 => ?_)
        exact qb_iret hX 90 rfl hR (fun _ h => h)
      refine qb_swc 11 ?_ (fun h11 => ?_)
      ·
        refine qb_tin hX 24 196 rfl (by decide) (by decide) rfl (by decide) ?_
        refine qb_aload_n hX 91 rfl rfl ?_
        refine qb_getR hX 92 rfl fl_Model_95 hthis rfl ?_
        refine qb_iload_n hX 93 rfl rfl ?_
        refine qb_zald hX 94 rfl (kf_Model_31 hthis) (fun x21 => ?_)
        refine qb_ifeq hX 95 209 rfl (by decide) ?_ ?_
        ·
          refine qb_iconst hX 98 0 rfl (by decide) ?_
          exact qb_iret hX 99 rfl hR (fun _ h => h)
        ·
          refine qb_iconst hX 96 1 rfl (by decide) ?_
          refine qb_goto hX 97 (tgt := 210) rfl (by decide) ?_
          exact qb_iret hX 99 rfl hR (fun _ h => h)
      refine qb_tout hX 24 211 rfl (by have g0 := lv_neT (a := 0) h0 (by decide); have g1 := lv_neT (a := 1) h1 (by decide); have g2 := lv_neT (a := 2) h2 (by decide); have g3 := lv_neT (a := 3) h3 (by decide); have g4 := lv_neT (a := 4) h4 (by decide); have g5 := lv_neT (a := 5) h5 (by decide); have g6 := lv_neT (a := 6) h6 (by decide); have g7 := lv_neT (a := 7) h7 (by decide); have g8 := lv_neT (a := 8) h8 (by decide); have g9 := lv_neT (a := 9) h9 (by decide); have g10 := lv_neT (a := 10) h10 (by decide); have g11 := lv_neT (a := 11) h11 (by decide); omega) (by decide) ?_
      refine qb_iconst hX 100 (-1) rfl (by decide) ?_
      exact qb_iret hX 101 rfl hR (fun _ h => h)
    ·
      refine qb_iconst hX 21 (-1) rfl (by decide) ?_
      exact qb_iret hX 22 rfl hR (fun _ h => h)
theorem jm_Model_column {l : Launch} {G : qm_G} (hG : qm_GI G) (this : Nat) (p1 : Int32) (p2 : Int32) (hthis : (qm_kd this).1 = 19) : qm_MI l G jy_Model_column prog_11_method_38_code 4 (some .int) 10 248 [.ref (G.1 this), .int p1, .int p2] (jf_Model_column this p1 p2) :=
  qm_metI (by decide +kernel) jd_Model_column (fun v hv => by simp only [List.mem_cons, List.not_mem_nil, or_false] at hv; rcases hv with rfl | rfl | rfl <;> rfl) (by exact Nat.le_of_ble_eq_true rfl) hG rfl (fun X hl hg hX r0 σ0 hR => by subst hl; subst hg; exact jb_Model_column hX hR this p1 p2 hthis)
def jl_Model_columnOf : List qm_I := [(0, .iconst 0, 1, 1), (1, .istore_n 2, 1, 2), (2, .iload_n 2, 1, 3), (3, .aload_n 0, 1, 4), (4, .getfield 198, 3, 7), (7, .if_icmp .ge 35, 3, 10), (10, .iload_n 1, 1, 11), (11, .i2l, 1, 12), (12, .aload_n 0, 1, 13), (13, .getfield 80, 3, 16), (16, .iload_n 2, 1, 17), (17, .iaload, 1, 18), (18, .i2l, 1, 19), (19, .aload_n 0, 1, 20), (20, .getfield 83, 3, 23), (23, .iload_n 2, 1, 24), (24, .iaload, 1, 25), (25, .iconst 1, 1, 26), (26, .isub, 1, 27), (27, .i2l, 1, 28), (28, .invokestatic 129, 3, 31), (31, .ifCond .eq 5, 3, 34), (34, .iload_n 2, 1, 35), (35, .ireturn, 1, 36), (36, .iinc 2 1, 3, 39), (39, .goto (-37), 3, 42), (42, .iconst (-1), 1, 43), (43, .ireturn, 1, 44)]
theorem jd_Model_columnOf : qm_D prog_11_method_39_code jl_Model_columnOf := qm_D_of (by decide +kernel)
noncomputable def jf_Model_columnOf (this : Nat) (p1 : Int32) : qm_M Int32 :=
  mB (α := (Unit ⊕ Int32)) (
    mW (S := Int32) (α := (Unit ⊕ Int32)) (fun s2 =>
      mB (mGt this 32) fun x3 =>
      if x3 ≤ s2 then
        mP (Sum.inr (Sum.inl ()))
      else
        mB (mLd (qm_rf this 26) s2) fun x4 =>
        mB (mLd (qm_rf this 27) s2) fun x5 =>
        mB (jf_Model_in (Int32.toInt64 p1) (Int32.toInt64 x4) (Int32.toInt64 (x5 - 1))) fun x6 =>
        if x6 = 0 then
          mB (mP (s2 + 1)) fun x7 =>
          mP (Sum.inl x7)
        else
          mP (Sum.inr (Sum.inr s2))) 0) (Sum.elim (fun s1 =>
    mP (-1)) mP)
set_option maxRecDepth 20000 in
set_option maxHeartbeats 4000000 in
theorem jb_Model_columnOf {X : qm_X} (hX : qm_ok X qr_Model prog_11_method_39_code 3 1 25 jl_Model_columnOf) {r0 : Int32} {σ0 : qm_Mem} (hR : qm_RI X r0 σ0 .int) (this : Nat) (p1 : Int32) (hthis : (qm_kd this).1 = 19) : qm_B X (jf_Model_columnOf this p1) 0 [some (.ref (qx_ad X this)), some (.int p1), none] [] (fun r σ1 => r = r0 ∧ σ1 = σ0) := by
  unfold jf_Model_columnOf
  refine qb_iconst hX 0 0 rfl (by decide) ?_
  refine qb_istore_n hX 1 ([some (.ref (qx_ad X this)), some (.int p1), some (.int 0)]) rfl (by decide) rfl ?_
  refine qb_join2 42 (fun s1 => [none, none, none]) (fun s1 => []) ?_ ?_
  ·
    refine qb_loopw (0) (fun s2 => [some (.ref (qx_ad X this)), some (.int p1), some (.int s2)]) (qw_s (qw_s (qw_s (qw_0)))) (fun s2 => ?_)
    refine qb_iload_n hX 2 rfl rfl ?_
    refine qb_aload_n hX 3 rfl rfl ?_
    refine qb_get hX 4 rfl fl_Model_198 hthis rfl (fun x3 => ?_)
    refine qb_icge hX 5 42 rfl (by decide) ?_ ?_
    ·
      exact qb_exit (fun σ h => qj_wk (ρ' := [none, none, none]) (qw_n (qw_n (qw_n (qw_0)))) h)
    ·
      refine qb_iload_n hX 6 rfl rfl ?_
      refine qb_i2l hX 7 rfl ?_
      refine qb_aload_n hX 8 rfl rfl ?_
      refine qb_getR hX 9 rfl fl_Model_80 hthis rfl ?_
      refine qb_iload_n hX 10 rfl rfl ?_
      refine qb_iald hX 11 rfl (kf_Model_26 hthis) (fun x4 => ?_)
      refine qb_i2l hX 12 rfl ?_
      refine qb_aload_n hX 13 rfl rfl ?_
      refine qb_getR hX 14 rfl fl_Model_83 hthis rfl ?_
      refine qb_iload_n hX 15 rfl rfl ?_
      refine qb_iald hX 16 rfl (kf_Model_27 hthis) (fun x5 => ?_)
      refine qb_iconst hX 17 1 rfl (by decide) ?_
      refine qb_isub hX 18 rfl ?_
      refine qb_i2l hX 19 rfl ?_
      refine qb_calSI hX 20 rfl cv_Model_129 (jm_Model_in (qk_GI hX) (Int32.toInt64 p1) (Int32.toInt64 x4) (Int32.toInt64 (x5 - 1)) ) ⟨rfl, by decide, by decide⟩ rfl (by exact Nat.le_of_ble_eq_true rfl) (fun x6 => ?_)
      refine qb_ifeq hX 21 36 rfl (by decide) ?_ ?_
      ·
        refine qb_iinc hX 24 1 (fun x7 => [some (.ref (qx_ad X this)), some (.int p1), some (.int x7)]) rfl (by decide) (by decide) rfl (fun _ => rfl) (fun x7 => ?_)
        exact qb_exit (fun σ h => qj_goto hX 25 rfl (by decide) (qj_wk (ρ' := [some (.ref (qx_ad X this)), some (.int p1), some (.int x7)]) (qw_s (qw_s (qw_s (qw_0)))) h))
      ·
        refine qb_iload_n hX 22 rfl rfl ?_
        exact qb_iret hX 23 rfl hR (fun _ h => h)
  · intro s1
    refine qb_iconst hX 26 (-1) rfl (by decide) ?_
    exact qb_iret hX 27 rfl hR (fun _ h => h)
theorem jm_Model_columnOf {l : Launch} {G : qm_G} (hG : qm_GI G) (this : Nat) (p1 : Int32) (hthis : (qm_kd this).1 = 19) : qm_MI l G jy_Model_columnOf prog_11_method_39_code 3 (some .int) 1 25 [.ref (G.1 this), .int p1] (jf_Model_columnOf this p1) :=
  qm_metI (by decide +kernel) jd_Model_columnOf (fun v hv => by simp only [List.mem_cons, List.not_mem_nil, or_false] at hv; rcases hv with rfl | rfl <;> rfl) (by exact Nat.le_of_ble_eq_true rfl) hG rfl (fun X hl hg hX r0 σ0 hR => by subst hl; subst hg; exact jb_Model_columnOf hX hR this p1 hthis)
def jl_Model_where : List qm_I := [(0, .aload_n 0, 1, 1), (1, .invokevirtual 254, 3, 4), (4, .istore_n 3, 1, 5), (5, .iload_n 1, 1, 6), (6, .i2l, 1, 7), (7, .lconst 0, 1, 8), (8, .aload_n 0, 1, 9), (9, .getfield 148, 3, 12), (12, .iconst 1, 1, 13), (13, .isub, 1, 14), (14, .i2l, 1, 15), (15, .invokestatic 129, 3, 18), (18, .ifCond .eq 15, 3, 21), (21, .iload_n 2, 1, 22), (22, .i2l, 1, 23), (23, .lconst 0, 1, 24), (24, .ldc2_w 260, 3, 27), (27, .invokestatic 129, 3, 30), (30, .ifCond .ne 5, 3, 33), (33, .iconst (-1), 1, 34), (34, .ireturn, 1, 35), (35, .aload_n 0, 1, 36), (36, .iload_n 1, 1, 37), (37, .invokevirtual 262, 3, 40), (40, .istore 4, 2, 42), (42, .iload 4, 2, 44), (44, .iconst (-1), 1, 45), (45, .if_icmp .ne 6, 3, 48), (48, .bipush (-2), 2, 50), (50, .ireturn, 1, 51), (51, .iload_n 2, 1, 52), (52, .iconst 2, 1, 53), (53, .if_icmp .ge 20, 3, 56), (56, .iload_n 2, 1, 57), (57, .ifCond .ne 13, 3, 60), (60, .aload_n 0, 1, 61), (61, .getfield 71, 3, 64), (64, .iload 4, 2, 66), (66, .iaload, 1, 67), (67, .goto 5, 3, 70), (70, .iload 4, 2, 72), (72, .ireturn, 1, 73), (73, .aload_n 0, 1, 74), (74, .getfield 80, 3, 77), (77, .iload 4, 2, 79), (79, .iaload, 1, 80), (80, .istore 5, 2, 82), (82, .iload_n 1, 1, 83), (83, .iload 5, 2, 85), (85, .if_icmp .ne 24, 3, 88), (88, .aload_n 0, 1, 89), (89, .iload 5, 2, 91), (91, .iload 5, 2, 93), (93, .iconst 1, 1, 94), (94, .iadd, 1, 95), (95, .invokevirtual 169, 3, 98), (98, .aload_n 0, 1, 99), (99, .getfield 32, 3, 102), (102, .iload 5, 2, 104), (104, .iaload, 1, 105), (105, .isub, 1, 106), (106, .goto 17, 3, 109), (109, .aload_n 0, 1, 110), (110, .iload 5, 2, 112), (112, .iload_n 1, 1, 113), (113, .invokevirtual 169, 3, 116), (116, .aload_n 0, 1, 117), (117, .getfield 35, 3, 120), (120, .iload_n 1, 1, 121), (121, .iaload, 1, 122), (122, .iadd, 1, 123), (123, .ireturn, 1, 124)]
theorem jd_Model_where : qm_D prog_11_method_40_code jl_Model_where := qm_D_of (by decide +kernel)
noncomputable def jf_Model_where (this : Nat) (p1 : Int32) (p2 : Int32) : qm_M Int32 :=
  mB (jf_Model_pours this) fun x1 =>
  mB (mGt this 13) fun x2 =>
  mB (jf_Model_in (Int32.toInt64 p1) (0 : Int64) (Int32.toInt64 (x2 - 1))) fun x3 =>
  if x3 = 0 then
    mP (-1)
  else
    mB (jf_Model_in (Int32.toInt64 p2) (0 : Int64) (2 : Int64)) fun x4 =>
    if ¬ x4 = 0 then
      mB (jf_Model_columnOf this p1) fun x5 =>
      if ¬ x5 = (-1) then
        if 2 ≤ p2 then
          mB (mLd (qm_rf this 26) x5) fun x6 =>
          if ¬ p1 = x6 then
            mB (jf_Model_textOf this x6 p1) fun x7 =>
            mB (mLd (qm_rf this 9) p1) fun x8 =>
            mP (x7 + x8)
          else
            mB (jf_Model_textOf this x6 (x6 + 1)) fun x9 =>
            mB (mLd (qm_rf this 8) x6) fun x10 =>
            mP (x9 - x10)
        else
          if ¬ p2 = 0 then
            mP x5
          else
            mB (mLd (qm_rf this 23) x5) fun x11 =>
            mP x11
      else
        mP (-2)
    else
      mP (-1)
set_option maxRecDepth 20000 in
set_option maxHeartbeats 4000000 in
theorem jb_Model_where {X : qm_X} (hX : qm_ok X qr_Model prog_11_method_40_code 6 10 248 jl_Model_where) {r0 : Int32} {σ0 : qm_Mem} (hR : qm_RI X r0 σ0 .int) (this : Nat) (p1 : Int32) (p2 : Int32) (hthis : (qm_kd this).1 = 19) : qm_B X (jf_Model_where this p1 p2) 0 [some (.ref (qx_ad X this)), some (.int p1), some (.int p2), none, none, none] [] (fun r σ1 => r = r0 ∧ σ1 = σ0) := by
  unfold jf_Model_where
  refine qb_aload_n hX 0 rfl rfl ?_
  refine qb_callI hX 1 rfl cv_Model_254 (jm_Model_pours (qk_GI hX) this  hthis ) (ci := 9) hthis ⟨rfl, rfl, rfl, by decide, by decide⟩ rfl (by exact Nat.le_of_ble_eq_true rfl) (fun x1 => ?_)
  refine qb_istore_n hX 2 ([some (.ref (qx_ad X this)), some (.int p1), some (.int p2), some (.int x1), none, none]) rfl (by decide) rfl ?_
  refine qb_iload_n hX 3 rfl rfl ?_
  refine qb_i2l hX 4 rfl ?_
  refine qb_lconst hX 5 0 rfl (by decide) ?_
  refine qb_aload_n hX 6 rfl rfl ?_
  refine qb_get hX 7 rfl fl_Model_148 hthis rfl (fun x2 => ?_)
  refine qb_iconst hX 8 1 rfl (by decide) ?_
  refine qb_isub hX 9 rfl ?_
  refine qb_i2l hX 10 rfl ?_
  refine qb_calSI hX 11 rfl cv_Model_129 (jm_Model_in (qk_GI hX) (Int32.toInt64 p1) (0 : Int64) (Int32.toInt64 (x2 - 1)) ) ⟨rfl, by decide, by decide⟩ rfl (by exact Nat.le_of_ble_eq_true rfl) (fun x3 => ?_)
  refine qb_ifeq hX 12 33 rfl (by decide) ?_ ?_
  ·
    refine qb_iconst hX 19 (-1) rfl (by decide) ?_
    exact qb_iret hX 20 rfl hR (fun _ h => h)
  ·
    refine qb_iload_n hX 13 rfl rfl ?_
    refine qb_i2l hX 14 rfl ?_
    refine qb_lconst hX 15 0 rfl (by decide) ?_
    refine qb_ldc2w hX 16 2 rfl kl_Model_260 ?_
    refine qb_calSI hX 17 rfl cv_Model_129 (jm_Model_in (qk_GI hX) (Int32.toInt64 p2) (0 : Int64) (2 : Int64) ) ⟨rfl, by decide, by decide⟩ rfl (by exact Nat.le_of_ble_eq_true rfl) (fun x4 => ?_)
    refine qb_ifne hX 18 35 rfl (by decide) ?_ ?_
    ·
      refine qb_aload_n hX 21 rfl rfl ?_
      refine qb_iload_n hX 22 rfl rfl ?_
      refine qb_callI hX 23 rfl cv_Model_262 (jm_Model_columnOf (qk_GI hX) this p1 hthis ) (ci := 9) hthis ⟨rfl, rfl, rfl, by decide, by decide⟩ rfl (by exact Nat.le_of_ble_eq_true rfl) (fun x5 => ?_)
      refine qb_istore hX 24 ([some (.ref (qx_ad X this)), some (.int p1), some (.int p2), some (.int x1), some (.int x5), none]) rfl (by decide) rfl ?_
      refine qb_iload hX 25 rfl rfl ?_
      refine qb_iconst hX 26 (-1) rfl (by decide) ?_
      refine qb_icne hX 27 51 rfl (by decide) ?_ ?_
      ·
        refine qb_iload_n hX 30 rfl rfl ?_
        refine qb_iconst hX 31 2 rfl (by decide) ?_
        refine qb_icge hX 32 73 rfl (by decide) ?_ ?_
        ·
          refine qb_aload_n hX 42 rfl rfl ?_
          refine qb_getR hX 43 rfl fl_Model_80 hthis rfl ?_
          refine qb_iload hX 44 rfl rfl ?_
          refine qb_iald hX 45 rfl (kf_Model_26 hthis) (fun x6 => ?_)
          refine qb_istore hX 46 ([some (.ref (qx_ad X this)), some (.int p1), some (.int p2), some (.int x1), some (.int x5), some (.int x6)]) rfl (by decide) rfl ?_
          refine qb_iload_n hX 47 rfl rfl ?_
          refine qb_iload hX 48 rfl rfl ?_
          refine qb_icne hX 49 109 rfl (by decide) ?_ ?_
          ·
            refine qb_aload_n hX 62 rfl rfl ?_
            refine qb_iload hX 63 rfl rfl ?_
            refine qb_iload_n hX 64 rfl rfl ?_
            refine qb_callI hX 65 rfl cv_Model_169 (jm_Model_textOf (qk_GI hX) this x6 p1 hthis ) (ci := 9) hthis ⟨rfl, rfl, rfl, by decide, by decide⟩ rfl (by exact Nat.le_of_ble_eq_true rfl) (fun x7 => ?_)
            refine qb_aload_n hX 66 rfl rfl ?_
            refine qb_getR hX 67 rfl fl_Model_35 hthis rfl ?_
            refine qb_iload_n hX 68 rfl rfl ?_
            refine qb_iald hX 69 rfl (kf_Model_9 hthis) (fun x8 => ?_)
            refine qb_iadd hX 70 rfl ?_
            exact qb_iret hX 71 rfl hR (fun _ h => h)
          ·
            refine qb_aload_n hX 50 rfl rfl ?_
            refine qb_iload hX 51 rfl rfl ?_
            refine qb_iload hX 52 rfl rfl ?_
            refine qb_iconst hX 53 1 rfl (by decide) ?_
            refine qb_iadd hX 54 rfl ?_
            refine qb_callI hX 55 rfl cv_Model_169 (jm_Model_textOf (qk_GI hX) this x6 (x6 + 1) hthis ) (ci := 9) hthis ⟨rfl, rfl, rfl, by decide, by decide⟩ rfl (by exact Nat.le_of_ble_eq_true rfl) (fun x9 => ?_)
            refine qb_aload_n hX 56 rfl rfl ?_
            refine qb_getR hX 57 rfl fl_Model_32 hthis rfl ?_
            refine qb_iload hX 58 rfl rfl ?_
            refine qb_iald hX 59 rfl (kf_Model_8 hthis) (fun x10 => ?_)
            refine qb_isub hX 60 rfl ?_
            refine qb_goto hX 61 (tgt := 123) rfl (by decide) ?_
            exact qb_iret hX 71 rfl hR (fun _ h => h)
        ·
          refine qb_iload_n hX 33 rfl rfl ?_
          refine qb_ifne hX 34 70 rfl (by decide) ?_ ?_
          ·
            refine qb_iload hX 40 rfl rfl ?_
            exact qb_iret hX 41 rfl hR (fun _ h => h)
          ·
            refine qb_aload_n hX 35 rfl rfl ?_
            refine qb_getR hX 36 rfl fl_Model_71 hthis rfl ?_
            refine qb_iload hX 37 rfl rfl ?_
            refine qb_iald hX 38 rfl (kf_Model_23 hthis) (fun x11 => ?_)
            refine qb_goto hX 39 (tgt := 72) rfl (by decide) ?_
            exact qb_iret hX 41 rfl hR (fun _ h => h)
      ·
        refine qb_bipush hX 28 (-2) rfl (by decide) ?_
        exact qb_iret hX 29 rfl hR (fun _ h => h)
    ·
      refine qb_iconst hX 19 (-1) rfl (by decide) ?_
      exact qb_iret hX 20 rfl hR (fun _ h => h)
theorem jm_Model_where {l : Launch} {G : qm_G} (hG : qm_GI G) (this : Nat) (p1 : Int32) (p2 : Int32) (hthis : (qm_kd this).1 = 19) : qm_MI l G jy_Model_where prog_11_method_40_code 6 (some .int) 10 248 [.ref (G.1 this), .int p1, .int p2] (jf_Model_where this p1 p2) :=
  qm_metI (by decide +kernel) jd_Model_where (fun v hv => by simp only [List.mem_cons, List.not_mem_nil, or_false] at hv; rcases hv with rfl | rfl | rfl <;> rfl) (by exact Nat.le_of_ble_eq_true rfl) hG rfl (fun X hl hg hX r0 σ0 hR => by subst hl; subst hg; exact jb_Model_where hX hR this p1 p2 hthis)
def jl_Model_notes : List qm_I := [(0, .iconst 0, 1, 1), (1, .istore_n 1, 1, 2), (2, .iconst 0, 1, 3), (3, .istore_n 2, 1, 4), (4, .iload_n 2, 1, 5), (5, .aload_n 0, 1, 6), (6, .getfield 148, 3, 9), (9, .if_icmp .ge 26, 3, 12), (12, .iload_n 1, 1, 13), (13, .aload_n 0, 1, 14), (14, .getfield 38, 3, 17), (17, .iload_n 2, 1, 18), (18, .iaload, 1, 19), (19, .ifCond .le 7, 3, 22), (22, .iconst 1, 1, 23), (23, .goto 4, 3, 26), (26, .iconst 0, 1, 27), (27, .iadd, 1, 28), (28, .istore_n 1, 1, 29), (29, .iinc 2 1, 3, 32), (32, .goto (-28), 3, 35), (35, .iload_n 1, 1, 36), (36, .ireturn, 1, 37)]
theorem jd_Model_notes : qm_D prog_11_method_41_code jl_Model_notes := qm_D_of (by decide +kernel)
noncomputable def jf_Model_notes (this : Nat) : qm_M Int32 :=
  mB (α := Int32) (
    mW (S := Int32 × Int32) (α := Int32) (fun s2 =>
      mB (mGt this 13) fun x3 =>
      if x3 ≤ s2.2 then
        mP (Sum.inr s2.1)
      else
        mB (mLd (qm_rf this 10) s2.2) fun x4 =>
        mB (α := Int32) (
          if x4 ≤ 0 then
            mP 0
          else
            mP 1) fun s5 =>
        mB (mP (s2.1 + s5)) fun x6 =>
        mB (mP (s2.2 + 1)) fun x7 =>
        mP (Sum.inl (x6, x7))) (0, 0)) fun s1 =>
  mP s1
set_option maxRecDepth 20000 in
set_option maxHeartbeats 4000000 in
theorem jb_Model_notes {X : qm_X} (hX : qm_ok X qr_Model prog_11_method_41_code 3 0 0 jl_Model_notes) {r0 : Int32} {σ0 : qm_Mem} (hR : qm_RI X r0 σ0 .int) (this : Nat) (hthis : (qm_kd this).1 = 19) : qm_B X (jf_Model_notes this) 0 [some (.ref (qx_ad X this)), none, none] [] (fun r σ1 => r = r0 ∧ σ1 = σ0) := by
  unfold jf_Model_notes
  refine qb_iconst hX 0 0 rfl (by decide) ?_
  refine qb_istore_n hX 1 ([some (.ref (qx_ad X this)), some (.int 0), none]) rfl (by decide) rfl ?_
  refine qb_iconst hX 2 0 rfl (by decide) ?_
  refine qb_istore_n hX 3 ([some (.ref (qx_ad X this)), some (.int 0), some (.int 0)]) rfl (by decide) rfl ?_
  refine qb_join 35 (fun s1 => [none, some (.int s1), none]) (fun s1 => []) ?_ ?_
  ·
    refine qb_loopw ((0, 0)) (fun s2 => [some (.ref (qx_ad X this)), some (.int s2.1), some (.int s2.2)]) (qw_s (qw_s (qw_s (qw_0)))) (fun s2 => ?_)
    refine qb_iload_n hX 4 rfl rfl ?_
    refine qb_aload_n hX 5 rfl rfl ?_
    refine qb_get hX 6 rfl fl_Model_148 hthis rfl (fun x3 => ?_)
    refine qb_icge hX 7 35 rfl (by decide) ?_ ?_
    ·
      exact qb_exit (fun σ h => qj_wk (ρ' := [none, some (.int s2.1), none]) (qw_n (qw_s (qw_n (qw_0)))) h)
    ·
      refine qb_iload_n hX 8 rfl rfl ?_
      refine qb_aload_n hX 9 rfl rfl ?_
      refine qb_getR hX 10 rfl fl_Model_38 hthis rfl ?_
      refine qb_iload_n hX 11 rfl rfl ?_
      refine qb_iald hX 12 rfl (kf_Model_10 hthis) (fun x4 => ?_)
      refine qb_join 27 (fun s5 => [some (.ref (qx_ad X this)), none, some (.int s2.2)]) (fun s5 => [.int s5, .int s2.1]) ?_ ?_
      ·
        refine qb_ifle hX 13 26 rfl (by decide) ?_ ?_
        ·
          refine qb_iconst hX 16 0 rfl (by decide) ?_
          exact qb_exit (fun σ h => qj_wk (ρ' := [some (.ref (qx_ad X this)), none, some (.int s2.2)]) (qw_s (qw_n (qw_s (qw_0)))) h)
        ·
          refine qb_iconst hX 14 1 rfl (by decide) ?_
          exact qb_exit (fun σ h => qj_goto hX 15 rfl (by decide) (qj_wk (ρ' := [some (.ref (qx_ad X this)), none, some (.int s2.2)]) (qw_s (qw_n (qw_s (qw_0)))) h))
      · intro s5
        refine qb_iadd hX 17 rfl ?_
        refine qb_istore_nL hX 18 (fun x6 => [some (.ref (qx_ad X this)), some (.int x6), some (.int s2.2)]) rfl (by decide) (fun _ => rfl) (fun x6 => ?_)
        refine qb_iinc hX 19 1 (fun x7 => [some (.ref (qx_ad X this)), some (.int x6), some (.int x7)]) rfl (by decide) (by decide) rfl (fun _ => rfl) (fun x7 => ?_)
        exact qb_exit (fun σ h => qj_goto hX 20 rfl (by decide) (qj_wk (ρ' := [some (.ref (qx_ad X this)), some (.int x6), some (.int x7)]) (qw_s (qw_s (qw_s (qw_0)))) h))
  · intro s1
    refine qb_iload_n hX 21 rfl rfl ?_
    exact qb_iret hX 22 rfl hR (fun _ h => h)
theorem jm_Model_notes {l : Launch} {G : qm_G} (hG : qm_GI G) (this : Nat) (hthis : (qm_kd this).1 = 19) : qm_MI l G jy_Model_notes prog_11_method_41_code 3 (some .int) 0 0 [.ref (G.1 this)] (jf_Model_notes this) :=
  qm_metI (by decide +kernel) jd_Model_notes (fun v hv => by simp only [List.mem_cons, List.not_mem_nil, or_false] at hv; rcases hv with rfl <;> rfl) (by exact Nat.le_of_ble_eq_true rfl) hG rfl (fun X hl hg hX r0 σ0 hR => by subst hl; subst hg; exact jb_Model_notes hX hR this hthis)
def jl_Model_noteAt : List qm_I := [(0, .iload_n 1, 1, 1), (1, .istore_n 2, 1, 2), (2, .iconst 0, 1, 3), (3, .istore_n 3, 1, 4), (4, .aload_n 0, 1, 5), (5, .getfield 38, 3, 8), (8, .iload_n 3, 1, 9), (9, .iaload, 1, 10), (10, .ifCond .eq 7, 3, 13), (13, .iload_n 2, 1, 14), (14, .ifCond .le 26, 3, 17), (17, .iload_n 2, 1, 18), (18, .aload_n 0, 1, 19), (19, .getfield 38, 3, 22), (22, .iload_n 3, 1, 23), (23, .iaload, 1, 24), (24, .ifCond .le 7, 3, 27), (27, .iconst 1, 1, 28), (28, .goto 4, 3, 31), (31, .iconst 0, 1, 32), (32, .isub, 1, 33), (33, .istore_n 2, 1, 34), (34, .iinc 3 1, 3, 37), (37, .goto (-33), 3, 40), (40, .iload_n 3, 1, 41), (41, .ireturn, 1, 42)]
theorem jd_Model_noteAt : qm_D prog_11_method_42_code jl_Model_noteAt := qm_D_of (by decide +kernel)
noncomputable def jf_Model_noteAt (this : Nat) (p1 : Int32) : qm_M Int32 :=
  mW (S := Int32 × Int32) (α := Int32) (fun s1 =>
    mB (mLd (qm_rf this 10) s1.2) fun x2 =>
    mB (α := (Unit ⊕ ((Int32 × Int32) ⊕ Int32))) (
      if x2 = 0 then
        mP (Sum.inl ())
      else
        if s1.1 ≤ 0 then
          mP (Sum.inr (Sum.inr s1.2))
        else
          mP (Sum.inl ())) (Sum.elim (fun s3 =>
      mB (mLd (qm_rf this 10) s1.2) fun x4 =>
      mB (α := Int32) (
        if x4 ≤ 0 then
          mP 0
        else
          mP 1) fun s5 =>
      mB (mP (s1.1 - s5)) fun x6 =>
      mB (mP (s1.2 + 1)) fun x7 =>
      mP (Sum.inl (x6, x7))) mP)) (p1, 0)
set_option maxRecDepth 20000 in
set_option maxHeartbeats 4000000 in
theorem jb_Model_noteAt {X : qm_X} (hX : qm_ok X qr_Model prog_11_method_42_code 4 0 0 jl_Model_noteAt) {r0 : Int32} {σ0 : qm_Mem} (hR : qm_RI X r0 σ0 .int) (this : Nat) (p1 : Int32) (hthis : (qm_kd this).1 = 19) : qm_B X (jf_Model_noteAt this p1) 0 [some (.ref (qx_ad X this)), some (.int p1), none, none] [] (fun r σ1 => r = r0 ∧ σ1 = σ0) := by
  unfold jf_Model_noteAt
  refine qb_iload_n hX 0 rfl rfl ?_
  refine qb_istore_n hX 1 ([some (.ref (qx_ad X this)), some (.int p1), some (.int p1), none]) rfl (by decide) rfl ?_
  refine qb_iconst hX 2 0 rfl (by decide) ?_
  refine qb_istore_n hX 3 ([some (.ref (qx_ad X this)), some (.int p1), some (.int p1), some (.int 0)]) rfl (by decide) rfl ?_
  refine qb_loopw ((p1, 0)) (fun s1 => [some (.ref (qx_ad X this)), none, some (.int s1.1), some (.int s1.2)]) (qw_s (qw_n (qw_s (qw_s (qw_0))))) (fun s1 => ?_)
  refine qb_aload_n hX 4 rfl rfl ?_
  refine qb_getR hX 5 rfl fl_Model_38 hthis rfl ?_
  refine qb_iload_n hX 6 rfl rfl ?_
  refine qb_iald hX 7 rfl (kf_Model_10 hthis) (fun x2 => ?_)
  refine qb_join2 17 (fun s3 => [some (.ref (qx_ad X this)), none, some (.int s1.1), some (.int s1.2)]) (fun s3 => []) ?_ ?_
  ·
    refine qb_ifeq hX 8 17 rfl (by decide) ?_ ?_
    ·
      exact qb_exit (fun σ h => qj_wk (ρ' := [some (.ref (qx_ad X this)), none, some (.int s1.1), some (.int s1.2)]) (qw_s (qw_n (qw_s (qw_s (qw_0))))) h)
    ·
      refine qb_iload_n hX 9 rfl rfl ?_
      refine qb_ifle hX 10 40 rfl (by decide) ?_ ?_
      ·
        refine qb_iload_n hX 24 rfl rfl ?_
        exact qb_iret hX 25 rfl hR (fun _ h => h)
      ·
        exact qb_exit (fun σ h => qj_wk (ρ' := [some (.ref (qx_ad X this)), none, some (.int s1.1), some (.int s1.2)]) (qw_s (qw_n (qw_s (qw_s (qw_0))))) h)
  · intro s3
    refine qb_iload_n hX 11 rfl rfl ?_
    refine qb_aload_n hX 12 rfl rfl ?_
    refine qb_getR hX 13 rfl fl_Model_38 hthis rfl ?_
    refine qb_iload_n hX 14 rfl rfl ?_
    refine qb_iald hX 15 rfl (kf_Model_10 hthis) (fun x4 => ?_)
    refine qb_join 32 (fun s5 => [some (.ref (qx_ad X this)), none, none, some (.int s1.2)]) (fun s5 => [.int s5, .int s1.1]) ?_ ?_
    ·
      refine qb_ifle hX 16 31 rfl (by decide) ?_ ?_
      ·
        refine qb_iconst hX 19 0 rfl (by decide) ?_
        exact qb_exit (fun σ h => qj_wk (ρ' := [some (.ref (qx_ad X this)), none, none, some (.int s1.2)]) (qw_s (qw_n (qw_n (qw_s (qw_0))))) h)
      ·
        refine qb_iconst hX 17 1 rfl (by decide) ?_
        exact qb_exit (fun σ h => qj_goto hX 18 rfl (by decide) (qj_wk (ρ' := [some (.ref (qx_ad X this)), none, none, some (.int s1.2)]) (qw_s (qw_n (qw_n (qw_s (qw_0))))) h))
    · intro s5
      refine qb_isub hX 20 rfl ?_
      refine qb_istore_nL hX 21 (fun x6 => [some (.ref (qx_ad X this)), none, some (.int x6), some (.int s1.2)]) rfl (by decide) (fun _ => rfl) (fun x6 => ?_)
      refine qb_iinc hX 22 1 (fun x7 => [some (.ref (qx_ad X this)), none, some (.int x6), some (.int x7)]) rfl (by decide) (by decide) rfl (fun _ => rfl) (fun x7 => ?_)
      exact qb_exit (fun σ h => qj_goto hX 23 rfl (by decide) (qj_wk (ρ' := [some (.ref (qx_ad X this)), none, some (.int x6), some (.int x7)]) (qw_s (qw_n (qw_s (qw_s (qw_0))))) h))
theorem jm_Model_noteAt {l : Launch} {G : qm_G} (hG : qm_GI G) (this : Nat) (p1 : Int32) (hthis : (qm_kd this).1 = 19) : qm_MI l G jy_Model_noteAt prog_11_method_42_code 4 (some .int) 0 0 [.ref (G.1 this), .int p1] (jf_Model_noteAt this p1) :=
  qm_metI (by decide +kernel) jd_Model_noteAt (fun v hv => by simp only [List.mem_cons, List.not_mem_nil, or_false] at hv; rcases hv with rfl | rfl <;> rfl) (by exact Nat.le_of_ble_eq_true rfl) hG rfl (fun X hl hg hX r0 σ0 hR => by subst hl; subst hg; exact jb_Model_noteAt hX hR this p1 hthis)
def jl_Model_linesAt : List qm_I := [(0, .aload_n 0, 1, 1), (1, .getfield 62, 3, 4), (4, .aload_n 0, 1, 5), (5, .getfield 83, 3, 8), (8, .iload_n 2, 1, 9), (9, .iaload, 1, 10), (10, .iaload, 1, 11), (11, .aload_n 0, 1, 12), (12, .getfield 62, 3, 15), (15, .iload_n 1, 1, 16), (16, .iconst 1, 1, 17), (17, .iadd, 1, 18), (18, .iaload, 1, 19), (19, .if_icmp .ne 7, 3, 22), (22, .iconst 1, 1, 23), (23, .goto 4, 3, 26), (26, .iconst 0, 1, 27), (27, .istore_n 3, 1, 28), (28, .iload_n 3, 1, 29), (29, .ifCond .eq 42, 3, 32), (32, .aload_n 0, 1, 33), (33, .iload_n 2, 1, 34), (34, .invokevirtual 257, 3, 37), (37, .aload_n 0, 1, 38), (38, .getfield 86, 3, 41), (41, .iload_n 2, 1, 42), (42, .iaload, 1, 43), (43, .isub, 1, 44), (44, .aload_n 0, 1, 45), (45, .aload_n 0, 1, 46), (46, .getfield 80, 3, 49), (49, .iload_n 2, 1, 50), (50, .iaload, 1, 51), (51, .aload_n 0, 1, 52), (52, .getfield 83, 3, 55), (55, .iload_n 2, 1, 56), (56, .iaload, 1, 57), (57, .invokevirtual 172, 3, 60), (60, .aload_n 0, 1, 61), (61, .getfield 38, 3, 64), (64, .iload_n 1, 1, 65), (65, .iaload, 1, 66), (66, .isub, 1, 67), (67, .isub, 1, 68), (68, .goto 9, 3, 71), (71, .aload_n 0, 1, 72), (72, .getfield 38, 3, 75), (75, .iload_n 1, 1, 76), (76, .iaload, 1, 77), (77, .ireturn, 1, 78)]
theorem jd_Model_linesAt : qm_D prog_11_method_43_code jl_Model_linesAt := qm_D_of (by decide +kernel)
noncomputable def jf_Model_linesAt (this : Nat) (p1 : Int32) (p2 : Int32) : qm_M Int32 :=
  mB (mLd (qm_rf this 27) p2) fun x1 =>
  mB (mLd (qm_rf this 20) x1) fun x2 =>
  mB (mLd (qm_rf this 20) (p1 + 1)) fun x3 =>
  mB (α := Int32) (
    if ¬ x2 = x3 then
      mP 0
    else
      mP 1) fun s4 =>
  if s4 = 0 then
    mB (mLd (qm_rf this 10) p1) fun x5 =>
    mP x5
  else
    mB (jf_Model_linesIn this p2) fun x6 =>
    mB (mLd (qm_rf this 28) p2) fun x7 =>
    mB (mLd (qm_rf this 26) p2) fun x8 =>
    mB (mLd (qm_rf this 27) p2) fun x9 =>
    mB (jf_Model_ownOf this x8 x9) fun x10 =>
    mB (mLd (qm_rf this 10) p1) fun x11 =>
    mP ((x6 - x7) - (x10 - x11))
set_option maxRecDepth 20000 in
set_option maxHeartbeats 4000000 in
theorem jb_Model_linesAt {X : qm_X} (hX : qm_ok X qr_Model prog_11_method_43_code 4 5 116 jl_Model_linesAt) {r0 : Int32} {σ0 : qm_Mem} (hR : qm_RI X r0 σ0 .int) (this : Nat) (p1 : Int32) (p2 : Int32) (hthis : (qm_kd this).1 = 19) : qm_B X (jf_Model_linesAt this p1 p2) 0 [some (.ref (qx_ad X this)), some (.int p1), some (.int p2), none] [] (fun r σ1 => r = r0 ∧ σ1 = σ0) := by
  unfold jf_Model_linesAt
  refine qb_aload_n hX 0 rfl rfl ?_
  refine qb_getR hX 1 rfl fl_Model_62 hthis rfl ?_
  refine qb_aload_n hX 2 rfl rfl ?_
  refine qb_getR hX 3 rfl fl_Model_83 hthis rfl ?_
  refine qb_iload_n hX 4 rfl rfl ?_
  refine qb_iald hX 5 rfl (kf_Model_27 hthis) (fun x1 => ?_)
  refine qb_iald hX 6 rfl (kf_Model_20 hthis) (fun x2 => ?_)
  refine qb_aload_n hX 7 rfl rfl ?_
  refine qb_getR hX 8 rfl fl_Model_62 hthis rfl ?_
  refine qb_iload_n hX 9 rfl rfl ?_
  refine qb_iconst hX 10 1 rfl (by decide) ?_
  refine qb_iadd hX 11 rfl ?_
  refine qb_iald hX 12 rfl (kf_Model_20 hthis) (fun x3 => ?_)
  refine qb_join 27 (fun s4 => [some (.ref (qx_ad X this)), some (.int p1), some (.int p2), none]) (fun s4 => [.int s4]) ?_ ?_
  ·
    refine qb_icne hX 13 26 rfl (by decide) ?_ ?_
    ·
      refine qb_iconst hX 16 0 rfl (by decide) ?_
      exact qb_exit (fun σ h => qj_wk (ρ' := [some (.ref (qx_ad X this)), some (.int p1), some (.int p2), none]) (qw_s (qw_s (qw_s (qw_n (qw_0))))) h)
    ·
      refine qb_iconst hX 14 1 rfl (by decide) ?_
      exact qb_exit (fun σ h => qj_goto hX 15 rfl (by decide) (qj_wk (ρ' := [some (.ref (qx_ad X this)), some (.int p1), some (.int p2), none]) (qw_s (qw_s (qw_s (qw_n (qw_0))))) h))
  · intro s4
    refine qb_istore_n hX 17 ([some (.ref (qx_ad X this)), some (.int p1), some (.int p2), some (.int s4)]) rfl (by decide) rfl ?_
    refine qb_iload_n hX 18 rfl rfl ?_
    refine qb_ifeq hX 19 71 rfl (by decide) ?_ ?_
    ·
      refine qb_aload_n hX 45 rfl rfl ?_
      refine qb_getR hX 46 rfl fl_Model_38 hthis rfl ?_
      refine qb_iload_n hX 47 rfl rfl ?_
      refine qb_iald hX 48 rfl (kf_Model_10 hthis) (fun x5 => ?_)
      exact qb_iret hX 49 rfl hR (fun _ h => h)
    ·
      refine qb_aload_n hX 20 rfl rfl ?_
      refine qb_iload_n hX 21 rfl rfl ?_
      refine qb_callI hX 22 rfl cv_Model_257 (jm_Model_linesIn (qk_GI hX) this p2 hthis ) (ci := 9) hthis ⟨rfl, rfl, rfl, by decide, by decide⟩ rfl (by exact Nat.le_of_ble_eq_true rfl) (fun x6 => ?_)
      refine qb_aload_n hX 23 rfl rfl ?_
      refine qb_getR hX 24 rfl fl_Model_86 hthis rfl ?_
      refine qb_iload_n hX 25 rfl rfl ?_
      refine qb_iald hX 26 rfl (kf_Model_28 hthis) (fun x7 => ?_)
      refine qb_isub hX 27 rfl ?_
      refine qb_aload_n hX 28 rfl rfl ?_
      refine qb_aload_n hX 29 rfl rfl ?_
      refine qb_getR hX 30 rfl fl_Model_80 hthis rfl ?_
      refine qb_iload_n hX 31 rfl rfl ?_
      refine qb_iald hX 32 rfl (kf_Model_26 hthis) (fun x8 => ?_)
      refine qb_aload_n hX 33 rfl rfl ?_
      refine qb_getR hX 34 rfl fl_Model_83 hthis rfl ?_
      refine qb_iload_n hX 35 rfl rfl ?_
      refine qb_iald hX 36 rfl (kf_Model_27 hthis) (fun x9 => ?_)
      refine qb_callI hX 37 rfl cv_Model_172 (jm_Model_ownOf (qk_GI hX) this x8 x9 hthis ) (ci := 9) hthis ⟨rfl, rfl, rfl, by decide, by decide⟩ rfl (by exact Nat.le_of_ble_eq_true rfl) (fun x10 => ?_)
      refine qb_aload_n hX 38 rfl rfl ?_
      refine qb_getR hX 39 rfl fl_Model_38 hthis rfl ?_
      refine qb_iload_n hX 40 rfl rfl ?_
      refine qb_iald hX 41 rfl (kf_Model_10 hthis) (fun x11 => ?_)
      refine qb_isub hX 42 rfl ?_
      refine qb_isub hX 43 rfl ?_
      refine qb_goto hX 44 (tgt := 77) rfl (by decide) ?_
      exact qb_iret hX 49 rfl hR (fun _ h => h)
theorem jm_Model_linesAt {l : Launch} {G : qm_G} (hG : qm_GI G) (this : Nat) (p1 : Int32) (p2 : Int32) (hthis : (qm_kd this).1 = 19) : qm_MI l G jy_Model_linesAt prog_11_method_43_code 4 (some .int) 5 116 [.ref (G.1 this), .int p1, .int p2] (jf_Model_linesAt this p1 p2) :=
  qm_metI (by decide +kernel) jd_Model_linesAt (fun v hv => by simp only [List.mem_cons, List.not_mem_nil, or_false] at hv; rcases hv with rfl | rfl | rfl <;> rfl) (by exact Nat.le_of_ble_eq_true rfl) hG rfl (fun X hl hg hX r0 σ0 hR => by subst hl; subst hg; exact jb_Model_linesAt hX hR this p1 p2 hthis)
