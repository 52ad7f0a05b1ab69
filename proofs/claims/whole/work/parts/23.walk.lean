def jl_Press_pourSection : List qm_I := [(0, .iconst 0, 1, 1), (1, .istore_n 2, 1, 2), (2, .iconst 0, 1, 3), (3, .istore_n 3, 1, 4), (4, .iload_n 3, 1, 5), (5, .bipush 40, 2, 7), (7, .if_icmp .gt 103, 3, 10), (10, .iload_n 2, 1, 11), (11, .ifCond .ne 99, 3, 14), (14, .aload_n 0, 1, 15), (15, .getfield 51, 3, 18), (18, .iconst (-1), 1, 19), (19, .if_icmp .ne 91, 3, 22), (22, .aload_n 0, 1, 23), (23, .getfield 29, 3, 26), (26, .iload_n 1, 1, 27), (27, .aload_n 0, 1, 28), (28, .getfield 92, 3, 31), (31, .aload_n 0, 1, 32), (32, .getfield 95, 3, 35), (35, .aload_n 0, 1, 36), (36, .getfield 76, 3, 39), (39, .invokevirtual 122, 3, 42), (42, .istore 4, 2, 44), (44, .iload 4, 2, 46), (46, .bipush (-2), 2, 48), (48, .if_icmp .eq 26, 3, 51), (51, .aload_n 0, 1, 52), (52, .iload_n 1, 1, 53), (53, .iload 4, 2, 55), (55, .invokevirtual 126, 3, 58), (58, .aload_n 0, 1, 59), (59, .dup, 1, 60), (60, .getfield 76, 3, 63), (63, .iload 4, 2, 65), (65, .isub, 1, 66), (66, .putfield 76, 3, 69), (69, .iconst 1, 1, 70), (70, .istore_n 2, 1, 71), (71, .goto 33, 3, 74), (74, .aload_n 0, 1, 75), (75, .iload_n 1, 1, 76), (76, .invokevirtual 130, 3, 79), (79, .ifCond .ne 21, 3, 82), (82, .aload_n 0, 1, 83), (83, .invokevirtual 115, 3, 86), (86, .ifCond .eq 14, 3, 89), (89, .aload_n 0, 1, 90), (90, .aload_n 0, 1, 91), (91, .getfield 92, 3, 94), (94, .putfield 51, 3, 97), (97, .goto 7, 3, 100), (100, .aload_n 0, 1, 101), (101, .invokevirtual 119, 3, 104), (104, .iinc 3 1, 3, 107), (107, .goto (-103), 3, 110), (110, .return_, 1, 111)]
theorem jd_Press_pourSection : qm_D prog_5_method_9_code jl_Press_pourSection := qm_D_of (by decide +kernel)
noncomputable def jf_Press_pourSection (this : Nat) (p1 : Int32) : qm_M Unit :=
  mB (α := Unit) (
    mW (S := Int32 × Int32) (α := Unit) (fun s2 =>
      if 40 < s2.2 then
        mP (Sum.inr ())
      else
        if ¬ s2.1 = 0 then
          mP (Sum.inr ())
        else
          mB (mGt this 9) fun x3 =>
          if ¬ x3 = (-1) then
            mP (Sum.inr ())
          else
            mB (mGt this 7) fun x4 =>
            mB (mGt this 8) fun x5 =>
            mB (mGt this 6) fun x6 =>
            mB (jf_Fitter_leastFrom (qm_rf this 2) p1 x4 x5 x6) fun x7 =>
            mB (α := Int32) (
              if x7 = (-2) then
                mB (jf_Press_fill this p1) fun x9 =>
                mB (α := (Unit ⊕ Int32)) (
                  if ¬ x9 = 0 then
                    mP (Sum.inl ())
                  else
                    mB (jf_Press_pageIsFree this) fun x11 =>
                    if x11 = 0 then
                      mP (Sum.inl ())
                    else
                      mB (mGt this 7) fun x12 =>
                      mB (mPt this 9 x12) fun _ =>
                      mP (Sum.inr s2.1)) (Sum.elim (fun s10 =>
                  mB (jf_Press_turnPage this) fun _ =>
                  mP s2.1) mP)
              else
                mB (jf_Press_level this p1 x7) fun _ =>
                mB (mGt this 6) fun x13 =>
                mB (mPt this 6 (x13 - x7)) fun _ =>
                mP 1) fun s8 =>
            mB (mP (s2.2 + 1)) fun x14 =>
            mP (Sum.inl (s8, x14))) (0, 0)) fun s1 =>
  mP ()
set_option maxRecDepth 20000 in
set_option maxHeartbeats 4000000 in
theorem jb_Press_pourSection {X : qm_X} (hX : qm_ok X qr_Press prog_5_method_9_code 5 4 109 jl_Press_pourSection) {σ0 : qm_Mem} (hR : qm_RV X σ0) (this : Nat) (p1 : Int32) (hthis : (qm_kd this).1 = 13) : qm_B X (jf_Press_pourSection this p1) 0 [some (.ref (qx_ad X this)), some (.int p1), none, none, none] [] (fun _ σ1 => σ1 = σ0) := by
  unfold jf_Press_pourSection
  refine qb_iconst hX 0 0 rfl (by decide) ?_
  refine qb_istore_n hX 1 ([some (.ref (qx_ad X this)), some (.int p1), some (.int 0), none, none]) rfl (by decide) rfl ?_
  refine qb_iconst hX 2 0 rfl (by decide) ?_
  refine qb_istore_n hX 3 ([some (.ref (qx_ad X this)), some (.int p1), some (.int 0), some (.int 0), none]) rfl (by decide) rfl ?_
  refine qb_join 110 (fun s1 => [none, none, none, none, none]) (fun s1 => []) ?_ ?_
  ·
    refine qb_loopw ((0, 0)) (fun s2 => [some (.ref (qx_ad X this)), some (.int p1), some (.int s2.1), some (.int s2.2), none]) (qw_s (qw_s (qw_s (qw_s (qw_n (qw_0)))))) (fun s2 => ?_)
    refine qb_iload_n hX 4 rfl rfl ?_
    refine qb_bipush hX 5 40 rfl (by decide) ?_
    refine qb_icgt hX 6 110 rfl (by decide) ?_ ?_
    ·
      exact qb_exit (fun σ h => qj_wk (ρ' := [none, none, none, none, none]) (qw_n (qw_n (qw_n (qw_n (qw_n (qw_0)))))) h)
    ·
      refine qb_iload_n hX 7 rfl rfl ?_
      refine qb_ifne hX 8 110 rfl (by decide) ?_ ?_
      ·
        exact qb_exit (fun σ h => qj_wk (ρ' := [none, none, none, none, none]) (qw_n (qw_n (qw_n (qw_n (qw_n (qw_0)))))) h)
      ·
        refine qb_aload_n hX 9 rfl rfl ?_
        refine qb_get hX 10 rfl fl_Press_51 hthis rfl (fun x3 => ?_)
        refine qb_iconst hX 11 (-1) rfl (by decide) ?_
        refine qb_icne hX 12 110 rfl (by decide) ?_ ?_
        ·
          exact qb_exit (fun σ h => qj_wk (ρ' := [none, none, none, none, none]) (qw_n (qw_n (qw_n (qw_n (qw_n (qw_0)))))) h)
        ·
          refine qb_aload_n hX 13 rfl rfl ?_
          refine qb_getR hX 14 rfl fl_Press_29 hthis rfl ?_
          refine qb_iload_n hX 15 rfl rfl ?_
          refine qb_aload_n hX 16 rfl rfl ?_
          refine qb_get hX 17 rfl fl_Press_92 hthis rfl (fun x4 => ?_)
          refine qb_aload_n hX 18 rfl rfl ?_
          refine qb_get hX 19 rfl fl_Press_95 hthis rfl (fun x5 => ?_)
          refine qb_aload_n hX 20 rfl rfl ?_
          refine qb_get hX 21 rfl fl_Press_76 hthis rfl (fun x6 => ?_)
          refine qb_callI hX 22 rfl cv_Press_122 (jm_Fitter_leastFrom (qk_GI hX) (qm_rf this 2) p1 x4 x5 x6 (kf_Press_2 hthis) ) (ci := 0) (kf_Press_2 hthis) ⟨rfl, rfl, rfl, by decide, by decide⟩ rfl (by exact Nat.le_of_ble_eq_true rfl) (fun x7 => ?_)
          refine qb_istore hX 23 ([some (.ref (qx_ad X this)), some (.int p1), some (.int s2.1), some (.int s2.2), some (.int x7)]) rfl (by decide) rfl ?_
          refine qb_iload hX 24 rfl rfl ?_
          refine qb_bipush hX 25 (-2) rfl (by decide) ?_
          refine qb_join 104 (fun s8 => [some (.ref (qx_ad X this)), some (.int p1), some (.int s8), some (.int s2.2), none]) (fun s8 => []) ?_ ?_
          ·
            refine qb_iceq hX 26 74 rfl (by decide) ?_ ?_
            ·
              refine qb_aload_n hX 40 rfl rfl ?_
              refine qb_iload_n hX 41 rfl rfl ?_
              refine qb_callI hX 42 rfl cv_Press_130 (jm_Press_fill (qk_GI hX) this p1 hthis ) (ci := 3) hthis ⟨rfl, rfl, rfl, by decide, by decide⟩ rfl (by exact Nat.le_of_ble_eq_true rfl) (fun x9 => ?_)
              refine qb_join2 100 (fun s10 => [some (.ref (qx_ad X this)), some (.int p1), some (.int s2.1), some (.int s2.2), none]) (fun s10 => []) ?_ ?_
              ·
                refine qb_ifne hX 43 100 rfl (by decide) ?_ ?_
                ·
                  exact qb_exit (fun σ h => qj_wk (ρ' := [some (.ref (qx_ad X this)), some (.int p1), some (.int s2.1), some (.int s2.2), none]) (qw_s (qw_s (qw_s (qw_s (qw_n (qw_0)))))) h)
                ·
                  refine qb_aload_n hX 44 rfl rfl ?_
                  refine qb_callI hX 45 rfl cv_Press_115 (jm_Press_pageIsFree (qk_GI hX) this  hthis ) (ci := 3) hthis ⟨rfl, rfl, rfl, by decide, by decide⟩ rfl (by exact Nat.le_of_ble_eq_true rfl) (fun x11 => ?_)
                  refine qb_ifeq hX 46 100 rfl (by decide) ?_ ?_
                  ·
                    exact qb_exit (fun σ h => qj_wk (ρ' := [some (.ref (qx_ad X this)), some (.int p1), some (.int s2.1), some (.int s2.2), none]) (qw_s (qw_s (qw_s (qw_s (qw_n (qw_0)))))) h)
                  ·
                    refine qb_aload_n hX 47 rfl rfl ?_
                    refine qb_aload_n hX 48 rfl rfl ?_
                    refine qb_get hX 49 rfl fl_Press_92 hthis rfl (fun x12 => ?_)
                    refine qb_put hX 50 rfl fp_Press_51 hthis ?_
                    exact qb_exit (fun σ h => qj_goto hX 51 rfl (by decide) (qj_wk (ρ' := [some (.ref (qx_ad X this)), some (.int p1), some (.int s2.1), some (.int s2.2), none]) (qw_s (qw_s (qw_s (qw_s (qw_n (qw_0)))))) h))
              · intro s10
                refine qb_aload_n hX 52 rfl rfl ?_
                refine qb_callV hX 53 rfl cv_Press_119 (jm_Press_turnPage (qk_GI hX) this  hthis ) (ci := 3) hthis ⟨rfl, rfl, rfl, by decide, by decide⟩ rfl (by exact Nat.le_of_ble_eq_true rfl) ?_
                exact qb_exit (fun σ h => qj_wk (ρ' := [some (.ref (qx_ad X this)), some (.int p1), some (.int s2.1), some (.int s2.2), none]) (qw_s (qw_s (qw_s (qw_s (qw_n (qw_0)))))) h)
            ·
              refine qb_aload_n hX 27 rfl rfl ?_
              refine qb_iload_n hX 28 rfl rfl ?_
              refine qb_iload hX 29 rfl rfl ?_
              refine qb_callV hX 30 rfl cv_Press_126 (jm_Press_level (qk_GI hX) this p1 x7 hthis ) (ci := 3) hthis ⟨rfl, rfl, rfl, by decide, by decide⟩ rfl (by exact Nat.le_of_ble_eq_true rfl) ?_
              refine qb_aload_n hX 31 rfl rfl ?_
              refine qb_dup hX 32 rfl rfl ?_
              refine qb_get hX 33 rfl fl_Press_76 hthis rfl (fun x13 => ?_)
              refine qb_iload hX 34 rfl rfl ?_
              refine qb_isub hX 35 rfl ?_
              refine qb_put hX 36 rfl fp_Press_76 hthis ?_
              refine qb_iconst hX 37 1 rfl (by decide) ?_
              refine qb_istore_n hX 38 ([some (.ref (qx_ad X this)), some (.int p1), some (.int 1), some (.int s2.2), some (.int x7)]) rfl (by decide) rfl ?_
              exact qb_exit (fun σ h => qj_goto hX 39 rfl (by decide) (qj_wk (ρ' := [some (.ref (qx_ad X this)), some (.int p1), some (.int 1), some (.int s2.2), none]) (qw_s (qw_s (qw_s (qw_s (qw_n (qw_0)))))) h))
          · intro s8
            refine qb_iinc hX 54 1 (fun x14 => [some (.ref (qx_ad X this)), some (.int p1), some (.int s8), some (.int x14), none]) rfl (by decide) (by decide) rfl (fun _ => rfl) (fun x14 => ?_)
            exact qb_exit (fun σ h => qj_goto hX 55 rfl (by decide) (qj_wk (ρ' := [some (.ref (qx_ad X this)), some (.int p1), some (.int s8), some (.int x14), none]) (qw_s (qw_s (qw_s (qw_s (qw_n (qw_0)))))) h))
  · intro s1
    exact qb_vret hX 56 rfl hR (fun _ h => h)
theorem jm_Press_pourSection {l : Launch} {G : qm_G} (hG : qm_GI G) (this : Nat) (p1 : Int32) (hthis : (qm_kd this).1 = 13) : qm_MV l G jy_Press_pourSection prog_5_method_9_code 5 4 109 [.ref (G.1 this), .int p1] (jf_Press_pourSection this p1) :=
  qm_metV (by decide +kernel) jd_Press_pourSection (fun v hv => by simp only [List.mem_cons, List.not_mem_nil, or_false] at hv; rcases hv with rfl | rfl <;> rfl) (by exact Nat.le_of_ble_eq_true rfl) hG (fun X hl hg hX σ0 hR => by subst hl; subst hg; exact jb_Press_pourSection hX hR this p1 hthis)
def jl_Press_answer : List qm_I := [(0, .aload_n 0, 1, 1), (1, .getfield 51, 3, 4), (4, .iconst (-1), 1, 5), (5, .if_icmp .eq 11, 3, 8), (8, .bipush (-2), 2, 10), (10, .aload_n 0, 1, 11), (11, .getfield 51, 3, 14), (14, .isub, 1, 15), (15, .ireturn, 1, 16), (16, .aload_n 0, 1, 17), (17, .getfield 20, 3, 20), (20, .getfield 82, 3, 23), (23, .ifCond .ne 7, 3, 26), (26, .iconst 0, 1, 27), (27, .goto 9, 3, 30), (30, .aload_n 0, 1, 31), (31, .getfield 67, 3, 34), (34, .iconst 1, 1, 35), (35, .iadd, 1, 36), (36, .ireturn, 1, 37)]
theorem jd_Press_answer : qm_D prog_5_method_5_code jl_Press_answer := qm_D_of (by decide +kernel)
noncomputable def jf_Press_answer (this : Nat) : qm_M Int32 :=
  mB (mGt this 9) fun x1 =>
  if x1 = (-1) then
    mB (mGt (qm_rf this 1) 1) fun x2 =>
    if ¬ x2 = 0 then
      mB (mGt this 5) fun x3 =>
      mP (x3 + 1)
    else
      mP 0
  else
    mB (mGt this 9) fun x4 =>
    mP ((-2) - x4)
set_option maxRecDepth 20000 in
set_option maxHeartbeats 4000000 in
theorem jb_Press_answer {X : qm_X} (hX : qm_ok X qr_Press prog_5_method_5_code 1 0 0 jl_Press_answer) {r0 : Int32} {σ0 : qm_Mem} (hR : qm_RI X r0 σ0 .int) (this : Nat) (hthis : (qm_kd this).1 = 13) : qm_B X (jf_Press_answer this) 0 [some (.ref (qx_ad X this))] [] (fun r σ1 => r = r0 ∧ σ1 = σ0) := by
  unfold jf_Press_answer
  refine qb_aload_n hX 0 rfl rfl ?_
  refine qb_get hX 1 rfl fl_Press_51 hthis rfl (fun x1 => ?_)
  refine qb_iconst hX 2 (-1) rfl (by decide) ?_
  refine qb_iceq hX 3 16 rfl (by decide) ?_ ?_
  ·
    refine qb_aload_n hX 9 rfl rfl ?_
    refine qb_getR hX 10 rfl fl_Press_20 hthis rfl ?_
    refine qb_get hX 11 rfl fl_Press_82 (kf_Press_1 hthis) rfl (fun x2 => ?_)
    refine qb_ifne hX 12 30 rfl (by decide) ?_ ?_
    ·
      refine qb_aload_n hX 15 rfl rfl ?_
      refine qb_get hX 16 rfl fl_Press_67 hthis rfl (fun x3 => ?_)
      refine qb_iconst hX 17 1 rfl (by decide) ?_
      refine qb_iadd hX 18 rfl ?_
      exact qb_iret hX 19 rfl hR (fun _ h => h)
    ·
      refine qb_iconst hX 13 0 rfl (by decide) ?_
      refine qb_goto hX 14 (tgt := 36) rfl (by decide) ?_
      exact qb_iret hX 19 rfl hR (fun _ h => h)
  ·
    refine qb_bipush hX 4 (-2) rfl (by decide) ?_
    refine qb_aload_n hX 5 rfl rfl ?_
    refine qb_get hX 6 rfl fl_Press_51 hthis rfl (fun x4 => ?_)
    refine qb_isub hX 7 rfl ?_
    exact qb_iret hX 8 rfl hR (fun _ h => h)
theorem jm_Press_answer {l : Launch} {G : qm_G} (hG : qm_GI G) (this : Nat) (hthis : (qm_kd this).1 = 13) : qm_MI l G jy_Press_answer prog_5_method_5_code 1 (some .int) 0 0 [.ref (G.1 this)] (jf_Press_answer this) :=
  qm_metI (by decide +kernel) jd_Press_answer (fun v hv => by simp only [List.mem_cons, List.not_mem_nil, or_false] at hv; rcases hv with rfl <;> rfl) (by exact Nat.le_of_ble_eq_true rfl) hG rfl (fun X hl hg hX r0 σ0 hR => by subst hl; subst hg; exact jb_Press_answer hX hR this hthis)
def jl_Press_pourAll : List qm_I := [(0, .aload_n 0, 1, 1), (1, .iconst 0, 1, 2), (2, .putfield 64, 3, 5), (5, .aload_n 0, 1, 6), (6, .iconst 0, 1, 7), (7, .putfield 67, 3, 10), (10, .aload_n 0, 1, 11), (11, .aload_n 0, 1, 12), (12, .getfield 9, 3, 15), (15, .iconst 1, 1, 16), (16, .invokevirtual 70, 3, 19), (19, .putfield 76, 3, 22), (22, .aload_n 0, 1, 23), (23, .iconst (-1), 1, 24), (24, .putfield 51, 3, 27), (27, .aload_n 0, 1, 28), (28, .iconst 0, 1, 29), (29, .putfield 79, 3, 32), (32, .iconst 0, 1, 33), (33, .istore_n 1, 1, 34), (34, .iload_n 1, 1, 35), (35, .aload_n 0, 1, 36), (36, .getfield 20, 3, 39), (39, .getfield 82, 3, 42), (42, .if_icmp .ge 77, 3, 45), (45, .aload_n 0, 1, 46), (46, .getfield 51, 3, 49), (49, .iconst (-1), 1, 50), (50, .if_icmp .ne 69, 3, 53), (53, .aload_n 0, 1, 54), (54, .aload_n 0, 1, 55), (55, .getfield 20, 3, 58), (58, .getfield 85, 3, 61), (61, .iload_n 1, 1, 62), (62, .invokestatic 88, 3, 65), (65, .putfield 92, 3, 68), (68, .aload_n 0, 1, 69), (69, .iconst 0, 1, 70), (70, .putfield 95, 3, 73), (73, .iload_n 1, 1, 74), (74, .ifCond .le 8, 3, 77), (77, .aload_n 0, 1, 78), (78, .iload_n 1, 1, 79), (79, .invokevirtual 98, 3, 82), (82, .aload_n 0, 1, 83), (83, .getfield 51, 3, 86), (86, .iconst (-1), 1, 87), (87, .if_icmp .ne 26, 3, 90), (90, .aload_n 0, 1, 91), (91, .getfield 92, 3, 94), (94, .aload_n 0, 1, 95), (95, .getfield 20, 3, 98), (98, .getfield 102, 3, 101), (101, .iload_n 1, 1, 102), (102, .invokestatic 88, 3, 105), (105, .if_icmp .ge 8, 3, 108), (108, .aload_n 0, 1, 109), (109, .iload_n 1, 1, 110), (110, .invokevirtual 105, 3, 113), (113, .iinc 1 1, 3, 116), (116, .goto (-82), 3, 119), (119, .aload_n 0, 1, 120), (120, .invokevirtual 108, 3, 123), (123, .ireturn, 1, 124)]
theorem jd_Press_pourAll : qm_D prog_5_method_4_code jl_Press_pourAll := qm_D_of (by decide +kernel)
noncomputable def jf_Press_pourAll (this : Nat) : qm_M Int32 :=
  mB (mPt this 4 0) fun _ =>
  mB (mPt this 5 0) fun _ =>
  mB (jf_Run_setting (qm_rf this 0) 1) fun x1 =>
  mB (mPt this 6 x1) fun _ =>
  mB (mPt this 9 (-1)) fun _ =>
  mB (mPt this 10 0) fun _ =>
  mB (α := Unit) (
    mW (S := Int32) (α := Unit) (fun s3 =>
      mB (mGt (qm_rf this 1) 1) fun x4 =>
      if x4 ≤ s3 then
        mP (Sum.inr ())
      else
        mB (mGt this 9) fun x5 =>
        if ¬ x5 = (-1) then
          mP (Sum.inr ())
        else
          mB (jf_Top_at (qm_rf (qm_rf this 1) 16) s3) fun x6 =>
          mB (mPt this 7 x6) fun _ =>
          mB (mPt this 8 0) fun _ =>
          mB (α := Unit) (
            if s3 ≤ 0 then
              mP ()
            else
              mB (jf_Press_putSpan this s3) fun _ =>
              mP ()) fun s7 =>
          mB (mGt this 9) fun x8 =>
          mB (α := Unit) (
            if ¬ x8 = (-1) then
              mP ()
            else
              mB (mGt this 7) fun x10 =>
              mB (jf_Top_at (qm_rf (qm_rf this 1) 17) s3) fun x11 =>
              if x11 ≤ x10 then
                mP ()
              else
                mB (jf_Press_pourSection this s3) fun _ =>
                mP ()) fun s9 =>
          mB (mP (s3 + 1)) fun x12 =>
          mP (Sum.inl x12)) 0) fun s2 =>
  mB (jf_Press_answer this) fun x13 =>
  mP x13
set_option maxRecDepth 20000 in
set_option maxHeartbeats 4000000 in
theorem jb_Press_pourAll {X : qm_X} (hX : qm_ok X qr_Press prog_5_method_4_code 2 5 133 jl_Press_pourAll) {r0 : Int32} {σ0 : qm_Mem} (hR : qm_RI X r0 σ0 .int) (this : Nat) (hthis : (qm_kd this).1 = 13) : qm_B X (jf_Press_pourAll this) 0 [some (.ref (qx_ad X this)), none] [] (fun r σ1 => r = r0 ∧ σ1 = σ0) := by
  unfold jf_Press_pourAll
  refine qb_aload_n hX 0 rfl rfl ?_
  refine qb_iconst hX 1 0 rfl (by decide) ?_
  refine qb_put hX 2 rfl fp_Press_64 hthis ?_
  refine qb_aload_n hX 3 rfl rfl ?_
  refine qb_iconst hX 4 0 rfl (by decide) ?_
  refine qb_put hX 5 rfl fp_Press_67 hthis ?_
  refine qb_aload_n hX 6 rfl rfl ?_
  refine qb_aload_n hX 7 rfl rfl ?_
  refine qb_getR hX 8 rfl fl_Press_9 hthis rfl ?_
  refine qb_iconst hX 9 1 rfl (by decide) ?_
  refine qb_callI hX 10 rfl cv_Press_70 (jm_Run_setting (qk_GI hX) (qm_rf this 0) 1 (kf_Press_0 hthis) ) (ci := 4) (kf_Press_0 hthis) ⟨rfl, rfl, rfl, by decide, by decide⟩ rfl (by exact Nat.le_of_ble_eq_true rfl) (fun x1 => ?_)
  refine qb_put hX 11 rfl fp_Press_76 hthis ?_
  refine qb_aload_n hX 12 rfl rfl ?_
  refine qb_iconst hX 13 (-1) rfl (by decide) ?_
  refine qb_put hX 14 rfl fp_Press_51 hthis ?_
  refine qb_aload_n hX 15 rfl rfl ?_
  refine qb_iconst hX 16 0 rfl (by decide) ?_
  refine qb_put hX 17 rfl fp_Press_79 hthis ?_
  refine qb_iconst hX 18 0 rfl (by decide) ?_
  refine qb_istore_n hX 19 ([some (.ref (qx_ad X this)), some (.int 0)]) rfl (by decide) rfl ?_
  refine qb_join 119 (fun s2 => [some (.ref (qx_ad X this)), none]) (fun s2 => []) ?_ ?_
  ·
    refine qb_loopw (0) (fun s3 => [some (.ref (qx_ad X this)), some (.int s3)]) (qw_s (qw_s (qw_0))) (fun s3 => ?_)
    refine qb_iload_n hX 20 rfl rfl ?_
    refine qb_aload_n hX 21 rfl rfl ?_
    refine qb_getR hX 22 rfl fl_Press_20 hthis rfl ?_
    refine qb_get hX 23 rfl fl_Press_82 (kf_Press_1 hthis) rfl (fun x4 => ?_)
    refine qb_icge hX 24 119 rfl (by decide) ?_ ?_
    ·
      exact qb_exit (fun σ h => qj_wk (ρ' := [some (.ref (qx_ad X this)), none]) (qw_s (qw_n (qw_0))) h)
    ·
      refine qb_aload_n hX 25 rfl rfl ?_
      refine qb_get hX 26 rfl fl_Press_51 hthis rfl (fun x5 => ?_)
      refine qb_iconst hX 27 (-1) rfl (by decide) ?_
      refine qb_icne hX 28 119 rfl (by decide) ?_ ?_
      ·
        exact qb_exit (fun σ h => qj_wk (ρ' := [some (.ref (qx_ad X this)), none]) (qw_s (qw_n (qw_0))) h)
      ·
        refine qb_aload_n hX 29 rfl rfl ?_
        refine qb_aload_n hX 30 rfl rfl ?_
        refine qb_getR hX 31 rfl fl_Press_20 hthis rfl ?_
        refine qb_getR hX 32 rfl fl_Press_85 (kf_Press_1 hthis) rfl ?_
        refine qb_iload_n hX 33 rfl rfl ?_
        refine qb_calNI hX 34 rfl cv_Press_88 (jm_Top_at (qk_GI hX) (qm_rf (qm_rf this 1) 16) s3 (kf_Flow_16 (kf_Press_1 hthis))) ⟨rfl, by decide, by decide⟩ rfl (by exact Nat.le_of_ble_eq_true rfl) (fun x6 => ?_)
        refine qb_put hX 35 rfl fp_Press_92 hthis ?_
        refine qb_aload_n hX 36 rfl rfl ?_
        refine qb_iconst hX 37 0 rfl (by decide) ?_
        refine qb_put hX 38 rfl fp_Press_95 hthis ?_
        refine qb_iload_n hX 39 rfl rfl ?_
        refine qb_join 82 (fun s7 => [some (.ref (qx_ad X this)), some (.int s3)]) (fun s7 => []) ?_ ?_
        ·
          refine qb_ifle hX 40 82 rfl (by decide) ?_ ?_
          ·
            exact qb_exit (fun σ h => qj_wk (ρ' := [some (.ref (qx_ad X this)), some (.int s3)]) (qw_s (qw_s (qw_0))) h)
          ·
            refine qb_aload_n hX 41 rfl rfl ?_
            refine qb_iload_n hX 42 rfl rfl ?_
            refine qb_callV hX 43 rfl cv_Press_98 (jm_Press_putSpan (qk_GI hX) this s3 hthis ) (ci := 3) hthis ⟨rfl, rfl, rfl, by decide, by decide⟩ rfl (by exact Nat.le_of_ble_eq_true rfl) ?_
            exact qb_exit (fun σ h => qj_wk (ρ' := [some (.ref (qx_ad X this)), some (.int s3)]) (qw_s (qw_s (qw_0))) h)
        · intro s7
          refine qb_aload_n hX 44 rfl rfl ?_
          refine qb_get hX 45 rfl fl_Press_51 hthis rfl (fun x8 => ?_)
          refine qb_iconst hX 46 (-1) rfl (by decide) ?_
          refine qb_join 113 (fun s9 => [some (.ref (qx_ad X this)), some (.int s3)]) (fun s9 => []) ?_ ?_
          ·
            refine qb_icne hX 47 113 rfl (by decide) ?_ ?_
            ·
              exact qb_exit (fun σ h => qj_wk (ρ' := [some (.ref (qx_ad X this)), some (.int s3)]) (qw_s (qw_s (qw_0))) h)
            ·
              refine qb_aload_n hX 48 rfl rfl ?_
              refine qb_get hX 49 rfl fl_Press_92 hthis rfl (fun x10 => ?_)
              refine qb_aload_n hX 50 rfl rfl ?_
              refine qb_getR hX 51 rfl fl_Press_20 hthis rfl ?_
              refine qb_getR hX 52 rfl fl_Press_102 (kf_Press_1 hthis) rfl ?_
              refine qb_iload_n hX 53 rfl rfl ?_
              refine qb_calNI hX 54 rfl cv_Press_88 (jm_Top_at (qk_GI hX) (qm_rf (qm_rf this 1) 17) s3 (kf_Flow_17 (kf_Press_1 hthis))) ⟨rfl, by decide, by decide⟩ rfl (by exact Nat.le_of_ble_eq_true rfl) (fun x11 => ?_)
              refine qb_icge hX 55 113 rfl (by decide) ?_ ?_
              ·
                exact qb_exit (fun σ h => qj_wk (ρ' := [some (.ref (qx_ad X this)), some (.int s3)]) (qw_s (qw_s (qw_0))) h)
              ·
                refine qb_aload_n hX 56 rfl rfl ?_
                refine qb_iload_n hX 57 rfl rfl ?_
                refine qb_callV hX 58 rfl cv_Press_105 (jm_Press_pourSection (qk_GI hX) this s3 hthis ) (ci := 3) hthis ⟨rfl, rfl, rfl, by decide, by decide⟩ rfl (by exact Nat.le_of_ble_eq_true rfl) ?_
                exact qb_exit (fun σ h => qj_wk (ρ' := [some (.ref (qx_ad X this)), some (.int s3)]) (qw_s (qw_s (qw_0))) h)
          · intro s9
            refine qb_iinc hX 59 1 (fun x12 => [some (.ref (qx_ad X this)), some (.int x12)]) rfl (by decide) (by decide) rfl (fun _ => rfl) (fun x12 => ?_)
            exact qb_exit (fun σ h => qj_goto hX 60 rfl (by decide) (qj_wk (ρ' := [some (.ref (qx_ad X this)), some (.int x12)]) (qw_s (qw_s (qw_0))) h))
  · intro s2
    refine qb_aload_n hX 61 rfl rfl ?_
    refine qb_callI hX 62 rfl cv_Press_108 (jm_Press_answer (qk_GI hX) this  hthis ) (ci := 3) hthis ⟨rfl, rfl, rfl, by decide, by decide⟩ rfl (by exact Nat.le_of_ble_eq_true rfl) (fun x13 => ?_)
    exact qb_iret hX 63 rfl hR (fun _ h => h)
theorem jm_Press_pourAll {l : Launch} {G : qm_G} (hG : qm_GI G) (this : Nat) (hthis : (qm_kd this).1 = 13) : qm_MI l G jy_Press_pourAll prog_5_method_4_code 2 (some .int) 5 133 [.ref (G.1 this)] (jf_Press_pourAll this) :=
  qm_metI (by decide +kernel) jd_Press_pourAll (fun v hv => by simp only [List.mem_cons, List.not_mem_nil, or_false] at hv; rcases hv with rfl <;> rfl) (by exact Nat.le_of_ble_eq_true rfl) hG rfl (fun X hl hg hX r0 σ0 hR => by subst hl; subst hg; exact jb_Press_pourAll hX hR this hthis)
def jl_Press_cell : List qm_I := [(0, .iload_n 1, 1, 1), (1, .ifCond .lt 33, 3, 4), (4, .iload_n 1, 1, 5), (5, .aload_n 0, 1, 6), (6, .getfield 41, 3, 9), (9, .arraylength, 1, 10), (10, .if_icmp .ge 24, 3, 13), (13, .iload_n 1, 1, 14), (14, .aload_n 0, 1, 15), (15, .getfield 64, 3, 18), (18, .if_icmp .ge 16, 3, 21), (21, .aload_n 0, 1, 22), (22, .getfield 41, 3, 25), (25, .iload_n 1, 1, 26), (26, .aaload, 1, 27), (27, .iload_n 2, 1, 28), (28, .invokestatic 88, 3, 31), (31, .goto 4, 3, 34), (34, .iconst 0, 1, 35), (35, .ireturn, 1, 36)]
theorem jd_Press_cell : qm_D prog_5_method_13_code jl_Press_cell := qm_D_of (by decide +kernel)
noncomputable def jf_Press_cell (this : Nat) (p1 : Int32) (p2 : Int32) : qm_M Int32 :=
  if p1 < 0 then
    mP 0
  else
    if (Int32.ofNat (qm_kd (qm_rf this 3)).2) ≤ p1 then
      mP 0
    else
      mB (mGt this 4) fun x1 =>
      if x1 ≤ p1 then
        mP 0
      else
        mB (mLr (qm_rf this 3) p1) fun r2 =>
        mB (jf_Top_at r2 p2) fun x3 =>
        mP x3
set_option maxRecDepth 20000 in
set_option maxHeartbeats 4000000 in
theorem jb_Press_cell {X : qm_X} (hX : qm_ok X qr_Press prog_5_method_13_code 3 1 21 jl_Press_cell) {r0 : Int32} {σ0 : qm_Mem} (hR : qm_RI X r0 σ0 .int) (this : Nat) (p1 : Int32) (p2 : Int32) (hthis : (qm_kd this).1 = 13) : qm_B X (jf_Press_cell this p1 p2) 0 [some (.ref (qx_ad X this)), some (.int p1), some (.int p2)] [] (fun r σ1 => r = r0 ∧ σ1 = σ0) := by
  unfold jf_Press_cell
  refine qb_iload_n hX 0 rfl rfl ?_
  refine qb_iflt hX 1 34 rfl (by decide) ?_ ?_
  ·
    refine qb_iconst hX 18 0 rfl (by decide) ?_
    exact qb_iret hX 19 rfl hR (fun _ h => h)
  ·
    refine qb_iload_n hX 2 rfl rfl ?_
    refine qb_aload_n hX 3 rfl rfl ?_
    refine qb_getR hX 4 rfl fl_Press_41 hthis rfl ?_
    refine qb_alenR hX 5 (Int32.ofNat (qm_kd (qm_rf this 3)).2) rfl (Or.inl (kf_Press_3 hthis)) rfl ?_
    refine qb_icge hX 6 34 rfl (by decide) ?_ ?_
    ·
      refine qb_iconst hX 18 0 rfl (by decide) ?_
      exact qb_iret hX 19 rfl hR (fun _ h => h)
    ·
      refine qb_iload_n hX 7 rfl rfl ?_
      refine qb_aload_n hX 8 rfl rfl ?_
      refine qb_get hX 9 rfl fl_Press_64 hthis rfl (fun x1 => ?_)
      refine qb_icge hX 10 34 rfl (by decide) ?_ ?_
      ·
        refine qb_iconst hX 18 0 rfl (by decide) ?_
        exact qb_iret hX 19 rfl hR (fun _ h => h)
      ·
        refine qb_aload_n hX 11 rfl rfl ?_
        refine qb_getR hX 12 rfl fl_Press_41 hthis rfl ?_
        refine qb_iload_n hX 13 rfl rfl ?_
        refine qb_aald hX 14 rfl (Or.inl (kf_Press_3 hthis)) (ka_4 (kf_Press_3 hthis)) (fun r2 hr2 => ?_)
        refine qb_iload_n hX 15 rfl rfl ?_
        refine qb_calNI hX 16 rfl cv_Press_88 (jm_Top_at (qk_GI hX) r2 p2 hr2) ⟨rfl, by decide, by decide⟩ rfl (by exact Nat.le_of_ble_eq_true rfl) (fun x3 => ?_)
        refine qb_goto hX 17 (tgt := 35) rfl (by decide) ?_
        exact qb_iret hX 19 rfl hR (fun _ h => h)
theorem jm_Press_cell {l : Launch} {G : qm_G} (hG : qm_GI G) (this : Nat) (p1 : Int32) (p2 : Int32) (hthis : (qm_kd this).1 = 13) : qm_MI l G jy_Press_cell prog_5_method_13_code 3 (some .int) 1 21 [.ref (G.1 this), .int p1, .int p2] (jf_Press_cell this p1 p2) :=
  qm_metI (by decide +kernel) jd_Press_cell (fun v hv => by simp only [List.mem_cons, List.not_mem_nil, or_false] at hv; rcases hv with rfl | rfl | rfl <;> rfl) (by exact Nat.le_of_ble_eq_true rfl) hG rfl (fun X hl hg hX r0 σ0 hR => by subst hl; subst hg; exact jb_Press_cell hX hR this p1 p2 hthis)
def jl_Press_used : List qm_I := [(0, .aload_n 0, 1, 1), (1, .iload_n 1, 1, 2), (2, .bipush 7, 2, 4), (4, .invokevirtual 155, 3, 7), (7, .aload_n 0, 1, 8), (8, .iload_n 1, 1, 9), (9, .bipush 6, 2, 11), (11, .invokevirtual 155, 3, 14), (14, .iadd, 1, 15), (15, .ifCond .le 7, 3, 18), (18, .iconst 1, 1, 19), (19, .goto 4, 3, 22), (22, .iconst 0, 1, 23), (23, .istore_n 2, 1, 24), (24, .iload_n 2, 1, 25), (25, .ifCond .eq 15, 3, 28), (28, .aload_n 0, 1, 29), (29, .getfield 9, 3, 32), (32, .bipush 6, 2, 34), (34, .invokevirtual 70, 3, 37), (37, .goto 4, 3, 40), (40, .iconst 0, 1, 41), (41, .istore_n 3, 1, 42), (42, .aload_n 0, 1, 43), (43, .iload_n 1, 1, 44), (44, .iconst 5, 1, 45), (45, .invokevirtual 155, 3, 48), (48, .iload_n 3, 1, 49), (49, .iadd, 1, 50), (50, .aload_n 0, 1, 51), (51, .iload_n 1, 1, 52), (52, .bipush 8, 2, 54), (54, .invokevirtual 155, 3, 57), (57, .aload_n 0, 1, 58), (58, .getfield 9, 3, 61), (61, .iconst 5, 1, 62), (62, .invokevirtual 70, 3, 65), (65, .imul, 1, 66), (66, .iadd, 1, 67), (67, .ireturn, 1, 68)]
theorem jd_Press_used : qm_D prog_5_method_14_code jl_Press_used := qm_D_of (by decide +kernel)
noncomputable def jf_Press_used (this : Nat) (p1 : Int32) : qm_M Int32 :=
  mB (jf_Press_cell this p1 7) fun x1 =>
  mB (jf_Press_cell this p1 6) fun x2 =>
  mB (α := Int32) (
    if (x1 + x2) ≤ 0 then
      mP 0
    else
      mP 1) fun s3 =>
  mB (α := Int32) (
    if s3 = 0 then
      mP 0
    else
      mB (jf_Run_setting (qm_rf this 0) 6) fun x5 =>
      mP x5) fun s4 =>
  mB (jf_Press_cell this p1 5) fun x6 =>
  mB (jf_Press_cell this p1 8) fun x7 =>
  mB (jf_Run_setting (qm_rf this 0) 5) fun x8 =>
  mP ((x6 + s4) + (x7 * x8))
set_option maxRecDepth 20000 in
set_option maxHeartbeats 4000000 in
theorem jb_Press_used {X : qm_X} (hX : qm_ok X qr_Press prog_5_method_14_code 4 2 43 jl_Press_used) {r0 : Int32} {σ0 : qm_Mem} (hR : qm_RI X r0 σ0 .int) (this : Nat) (p1 : Int32) (hthis : (qm_kd this).1 = 13) : qm_B X (jf_Press_used this p1) 0 [some (.ref (qx_ad X this)), some (.int p1), none, none] [] (fun r σ1 => r = r0 ∧ σ1 = σ0) := by
  unfold jf_Press_used
  refine qb_aload_n hX 0 rfl rfl ?_
  refine qb_iload_n hX 1 rfl rfl ?_
  refine qb_bipush hX 2 7 rfl (by decide) ?_
  refine qb_callI hX 3 rfl cv_Press_155 (jm_Press_cell (qk_GI hX) this p1 7 hthis ) (ci := 3) hthis ⟨rfl, rfl, rfl, by decide, by decide⟩ rfl (by exact Nat.le_of_ble_eq_true rfl) (fun x1 => ?_)
  refine qb_aload_n hX 4 rfl rfl ?_
  refine qb_iload_n hX 5 rfl rfl ?_
  refine qb_bipush hX 6 6 rfl (by decide) ?_
  refine qb_callI hX 7 rfl cv_Press_155 (jm_Press_cell (qk_GI hX) this p1 6 hthis ) (ci := 3) hthis ⟨rfl, rfl, rfl, by decide, by decide⟩ rfl (by exact Nat.le_of_ble_eq_true rfl) (fun x2 => ?_)
  refine qb_iadd hX 8 rfl ?_
  refine qb_join 23 (fun s3 => [some (.ref (qx_ad X this)), some (.int p1), none, none]) (fun s3 => [.int s3]) ?_ ?_
  ·
    refine qb_ifle hX 9 22 rfl (by decide) ?_ ?_
    ·
      refine qb_iconst hX 12 0 rfl (by decide) ?_
      exact qb_exit (fun σ h => qj_wk (ρ' := [some (.ref (qx_ad X this)), some (.int p1), none, none]) (qw_s (qw_s (qw_n (qw_n (qw_0))))) h)
    ·
      refine qb_iconst hX 10 1 rfl (by decide) ?_
      exact qb_exit (fun σ h => qj_goto hX 11 rfl (by decide) (qj_wk (ρ' := [some (.ref (qx_ad X this)), some (.int p1), none, none]) (qw_s (qw_s (qw_n (qw_n (qw_0))))) h))
  · intro s3
    refine qb_istore_n hX 13 ([some (.ref (qx_ad X this)), some (.int p1), some (.int s3), none]) rfl (by decide) rfl ?_
    refine qb_iload_n hX 14 rfl rfl ?_
    refine qb_join 41 (fun s4 => [some (.ref (qx_ad X this)), some (.int p1), none, none]) (fun s4 => [.int s4]) ?_ ?_
    ·
      refine qb_ifeq hX 15 40 rfl (by decide) ?_ ?_
      ·
        refine qb_iconst hX 21 0 rfl (by decide) ?_
        exact qb_exit (fun σ h => qj_wk (ρ' := [some (.ref (qx_ad X this)), some (.int p1), none, none]) (qw_s (qw_s (qw_n (qw_n (qw_0))))) h)
      ·
        refine qb_aload_n hX 16 rfl rfl ?_
        refine qb_getR hX 17 rfl fl_Press_9 hthis rfl ?_
        refine qb_bipush hX 18 6 rfl (by decide) ?_
        refine qb_callI hX 19 rfl cv_Press_70 (jm_Run_setting (qk_GI hX) (qm_rf this 0) 6 (kf_Press_0 hthis) ) (ci := 4) (kf_Press_0 hthis) ⟨rfl, rfl, rfl, by decide, by decide⟩ rfl (by exact Nat.le_of_ble_eq_true rfl) (fun x5 => ?_)
        exact qb_exit (fun σ h => qj_goto hX 20 rfl (by decide) (qj_wk (ρ' := [some (.ref (qx_ad X this)), some (.int p1), none, none]) (qw_s (qw_s (qw_n (qw_n (qw_0))))) h))
    · intro s4
      refine qb_istore_n hX 22 ([some (.ref (qx_ad X this)), some (.int p1), none, some (.int s4)]) rfl (by decide) rfl ?_
      refine qb_aload_n hX 23 rfl rfl ?_
      refine qb_iload_n hX 24 rfl rfl ?_
      refine qb_iconst hX 25 5 rfl (by decide) ?_
      refine qb_callI hX 26 rfl cv_Press_155 (jm_Press_cell (qk_GI hX) this p1 5 hthis ) (ci := 3) hthis ⟨rfl, rfl, rfl, by decide, by decide⟩ rfl (by exact Nat.le_of_ble_eq_true rfl) (fun x6 => ?_)
      refine qb_iload_n hX 27 rfl rfl ?_
      refine qb_iadd hX 28 rfl ?_
      refine qb_aload_n hX 29 rfl rfl ?_
      refine qb_iload_n hX 30 rfl rfl ?_
      refine qb_bipush hX 31 8 rfl (by decide) ?_
      refine qb_callI hX 32 rfl cv_Press_155 (jm_Press_cell (qk_GI hX) this p1 8 hthis ) (ci := 3) hthis ⟨rfl, rfl, rfl, by decide, by decide⟩ rfl (by exact Nat.le_of_ble_eq_true rfl) (fun x7 => ?_)
      refine qb_aload_n hX 33 rfl rfl ?_
      refine qb_getR hX 34 rfl fl_Press_9 hthis rfl ?_
      refine qb_iconst hX 35 5 rfl (by decide) ?_
      refine qb_callI hX 36 rfl cv_Press_70 (jm_Run_setting (qk_GI hX) (qm_rf this 0) 5 (kf_Press_0 hthis) ) (ci := 4) (kf_Press_0 hthis) ⟨rfl, rfl, rfl, by decide, by decide⟩ rfl (by exact Nat.le_of_ble_eq_true rfl) (fun x8 => ?_)
      refine qb_imul hX 37 rfl ?_
      refine qb_iadd hX 38 rfl ?_
      exact qb_iret hX 39 rfl hR (fun _ h => h)
theorem jm_Press_used {l : Launch} {G : qm_G} (hG : qm_GI G) (this : Nat) (p1 : Int32) (hthis : (qm_kd this).1 = 13) : qm_MI l G jy_Press_used prog_5_method_14_code 4 (some .int) 2 43 [.ref (G.1 this), .int p1] (jf_Press_used this p1) :=
  qm_metI (by decide +kernel) jd_Press_used (fun v hv => by simp only [List.mem_cons, List.not_mem_nil, or_false] at hv; rcases hv with rfl | rfl <;> rfl) (by exact Nat.le_of_ble_eq_true rfl) hG rfl (fun X hl hg hX r0 σ0 hR => by subst hl; subst hg; exact jb_Press_used hX hR this p1 hthis)
def jl_Press_levelAlone : List qm_I := [(0, .aload_n 0, 1, 1), (1, .iconst 0, 1, 2), (2, .putfield 64, 3, 5), (5, .aload_n 0, 1, 6), (6, .aload_n 0, 1, 7), (7, .getfield 20, 3, 10), (10, .getfield 85, 3, 13), (13, .iload_n 1, 1, 14), (14, .invokestatic 88, 3, 17), (17, .putfield 92, 3, 20), (20, .aload_n 0, 1, 21), (21, .iconst 0, 1, 22), (22, .putfield 95, 3, 25), (25, .aload_n 0, 1, 26), (26, .iload_n 1, 1, 27), (27, .iload_n 2, 1, 28), (28, .invokevirtual 126, 3, 31), (31, .return_, 1, 32)]
theorem jd_Press_levelAlone : qm_D prog_5_method_15_code jl_Press_levelAlone := qm_D_of (by decide +kernel)
noncomputable def jf_Press_levelAlone (this : Nat) (p1 : Int32) (p2 : Int32) : qm_M Unit :=
  mB (mPt this 4 0) fun _ =>
  mB (jf_Top_at (qm_rf (qm_rf this 1) 16) p1) fun x1 =>
  mB (mPt this 7 x1) fun _ =>
  mB (mPt this 8 0) fun _ =>
  mB (jf_Press_level this p1 p2) fun _ =>
  mP ()
set_option maxRecDepth 20000 in
set_option maxHeartbeats 4000000 in
theorem jb_Press_levelAlone {X : qm_X} (hX : qm_ok X qr_Press prog_5_method_15_code 3 4 105 jl_Press_levelAlone) {σ0 : qm_Mem} (hR : qm_RV X σ0) (this : Nat) (p1 : Int32) (p2 : Int32) (hthis : (qm_kd this).1 = 13) : qm_B X (jf_Press_levelAlone this p1 p2) 0 [some (.ref (qx_ad X this)), some (.int p1), some (.int p2)] [] (fun _ σ1 => σ1 = σ0) := by
  unfold jf_Press_levelAlone
  refine qb_aload_n hX 0 rfl rfl ?_
  refine qb_iconst hX 1 0 rfl (by decide) ?_
  refine qb_put hX 2 rfl fp_Press_64 hthis ?_
  refine qb_aload_n hX 3 rfl rfl ?_
  refine qb_aload_n hX 4 rfl rfl ?_
  refine qb_getR hX 5 rfl fl_Press_20 hthis rfl ?_
  refine qb_getR hX 6 rfl fl_Press_85 (kf_Press_1 hthis) rfl ?_
  refine qb_iload_n hX 7 rfl rfl ?_
  refine qb_calNI hX 8 rfl cv_Press_88 (jm_Top_at (qk_GI hX) (qm_rf (qm_rf this 1) 16) p1 (kf_Flow_16 (kf_Press_1 hthis))) ⟨rfl, by decide, by decide⟩ rfl (by exact Nat.le_of_ble_eq_true rfl) (fun x1 => ?_)
  refine qb_put hX 9 rfl fp_Press_92 hthis ?_
  refine qb_aload_n hX 10 rfl rfl ?_
  refine qb_iconst hX 11 0 rfl (by decide) ?_
  refine qb_put hX 12 rfl fp_Press_95 hthis ?_
  refine qb_aload_n hX 13 rfl rfl ?_
  refine qb_iload_n hX 14 rfl rfl ?_
  refine qb_iload_n hX 15 rfl rfl ?_
  refine qb_callV hX 16 rfl cv_Press_126 (jm_Press_level (qk_GI hX) this p1 p2 hthis ) (ci := 3) hthis ⟨rfl, rfl, rfl, by decide, by decide⟩ rfl (by exact Nat.le_of_ble_eq_true rfl) ?_
  exact qb_vret hX 17 rfl hR (fun _ h => h)
theorem jm_Press_levelAlone {l : Launch} {G : qm_G} (hG : qm_GI G) (this : Nat) (p1 : Int32) (p2 : Int32) (hthis : (qm_kd this).1 = 13) : qm_MV l G jy_Press_levelAlone prog_5_method_15_code 3 4 105 [.ref (G.1 this), .int p1, .int p2] (jf_Press_levelAlone this p1 p2) :=
  qm_metV (by decide +kernel) jd_Press_levelAlone (fun v hv => by simp only [List.mem_cons, List.not_mem_nil, or_false] at hv; rcases hv with rfl | rfl | rfl <;> rfl) (by exact Nat.le_of_ble_eq_true rfl) hG (fun X hl hg hX σ0 hR => by subst hl; subst hg; exact jb_Press_levelAlone hX hR this p1 p2 hthis)
def jl_Press_difference : List qm_I := [(0, .aload_n 0, 1, 1), (1, .iconst 0, 1, 2), (2, .invokevirtual 158, 3, 5), (5, .istore_n 1, 1, 6), (6, .iload_n 1, 1, 7), (7, .istore_n 2, 1, 8), (8, .iconst 1, 1, 9), (9, .istore_n 3, 1, 10), (10, .iload_n 3, 1, 11), (11, .aload_n 0, 1, 12), (12, .getfield 64, 3, 15), (15, .if_icmp .ge 29, 3, 18), (18, .iload_n 1, 1, 19), (19, .aload_n 0, 1, 20), (20, .iload_n 3, 1, 21), (21, .invokevirtual 158, 3, 24), (24, .invokestatic 33, 3, 27), (27, .istore_n 1, 1, 28), (28, .iload_n 2, 1, 29), (29, .aload_n 0, 1, 30), (30, .iload_n 3, 1, 31), (31, .invokevirtual 158, 3, 34), (34, .invokestatic 161, 3, 37), (37, .istore_n 2, 1, 38), (38, .iinc 3 1, 3, 41), (41, .goto (-31), 3, 44), (44, .iload_n 1, 1, 45), (45, .iload_n 2, 1, 46), (46, .isub, 1, 47), (47, .ireturn, 1, 48)]
theorem jd_Press_difference : qm_D prog_5_method_16_code jl_Press_difference := qm_D_of (by decide +kernel)
noncomputable def jf_Press_difference (this : Nat) : qm_M Int32 :=
  mB (jf_Press_used this 0) fun x1 =>
  mB (α := Int32 × Int32) (
    mW (S := Int32 × Int32 × Int32) (α := Int32 × Int32) (fun s3 =>
      mB (mGt this 4) fun x4 =>
      if x4 ≤ s3.2.2 then
        mP (Sum.inr (s3.1, s3.2.1))
      else
        mB (jf_Press_used this s3.2.2) fun x5 =>
        mB (jf_Math_max s3.1 x5) fun x6 =>
        mB (jf_Press_used this s3.2.2) fun x7 =>
        mB (jf_Math_min s3.2.1 x7) fun x8 =>
        mB (mP (s3.2.2 + 1)) fun x9 =>
        mP (Sum.inl (x6, x8, x9))) (x1, x1, 1)) fun s2 =>
  mP (s2.1 - s2.2)
set_option maxRecDepth 20000 in
set_option maxHeartbeats 4000000 in
theorem jb_Press_difference {X : qm_X} (hX : qm_ok X qr_Press prog_5_method_16_code 4 3 66 jl_Press_difference) {r0 : Int32} {σ0 : qm_Mem} (hR : qm_RI X r0 σ0 .int) (this : Nat) (hthis : (qm_kd this).1 = 13) : qm_B X (jf_Press_difference this) 0 [some (.ref (qx_ad X this)), none, none, none] [] (fun r σ1 => r = r0 ∧ σ1 = σ0) := by
  unfold jf_Press_difference
  refine qb_aload_n hX 0 rfl rfl ?_
  refine qb_iconst hX 1 0 rfl (by decide) ?_
  refine qb_callI hX 2 rfl cv_Press_158 (jm_Press_used (qk_GI hX) this 0 hthis ) (ci := 3) hthis ⟨rfl, rfl, rfl, by decide, by decide⟩ rfl (by exact Nat.le_of_ble_eq_true rfl) (fun x1 => ?_)
  refine qb_istore_n hX 3 ([some (.ref (qx_ad X this)), some (.int x1), none, none]) rfl (by decide) rfl ?_
  refine qb_iload_n hX 4 rfl rfl ?_
  refine qb_istore_n hX 5 ([some (.ref (qx_ad X this)), some (.int x1), some (.int x1), none]) rfl (by decide) rfl ?_
  refine qb_iconst hX 6 1 rfl (by decide) ?_
  refine qb_istore_n hX 7 ([some (.ref (qx_ad X this)), some (.int x1), some (.int x1), some (.int 1)]) rfl (by decide) rfl ?_
  refine qb_join 44 (fun s2 => [none, some (.int s2.1), some (.int s2.2), none]) (fun s2 => []) ?_ ?_
  ·
    refine qb_loopw ((x1, x1, 1)) (fun s3 => [some (.ref (qx_ad X this)), some (.int s3.1), some (.int s3.2.1), some (.int s3.2.2)]) (qw_s (qw_s (qw_s (qw_s (qw_0))))) (fun s3 => ?_)
    refine qb_iload_n hX 8 rfl rfl ?_
    refine qb_aload_n hX 9 rfl rfl ?_
    refine qb_get hX 10 rfl fl_Press_64 hthis rfl (fun x4 => ?_)
    refine qb_icge hX 11 44 rfl (by decide) ?_ ?_
    ·
      exact qb_exit (fun σ h => qj_wk (ρ' := [none, some (.int s3.1), some (.int s3.2.1), none]) (qw_n (qw_s (qw_s (qw_n (qw_0))))) h)
    ·
      refine qb_iload_n hX 12 rfl rfl ?_
      refine qb_aload_n hX 13 rfl rfl ?_
      refine qb_iload_n hX 14 rfl rfl ?_
      refine qb_callI hX 15 rfl cv_Press_158 (jm_Press_used (qk_GI hX) this s3.2.2 hthis ) (ci := 3) hthis ⟨rfl, rfl, rfl, by decide, by decide⟩ rfl (by exact Nat.le_of_ble_eq_true rfl) (fun x5 => ?_)
      refine qb_mmax hX 16 rfl cv_Press_33 (by decide) (by exact Nat.le_of_ble_eq_true rfl) (fun x6 => ?_)
      refine qb_istore_n hX 17 ([some (.ref (qx_ad X this)), some (.int x6), some (.int s3.2.1), some (.int s3.2.2)]) rfl (by decide) rfl ?_
      refine qb_iload_n hX 18 rfl rfl ?_
      refine qb_aload_n hX 19 rfl rfl ?_
      refine qb_iload_n hX 20 rfl rfl ?_
      refine qb_callI hX 21 rfl cv_Press_158 (jm_Press_used (qk_GI hX) this s3.2.2 hthis ) (ci := 3) hthis ⟨rfl, rfl, rfl, by decide, by decide⟩ rfl (by exact Nat.le_of_ble_eq_true rfl) (fun x7 => ?_)
      refine qb_mmin hX 22 rfl cv_Press_161 (by decide) (by exact Nat.le_of_ble_eq_true rfl) (fun x8 => ?_)
      refine qb_istore_n hX 23 ([some (.ref (qx_ad X this)), some (.int x6), some (.int x8), some (.int s3.2.2)]) rfl (by decide) rfl ?_
      refine qb_iinc hX 24 1 (fun x9 => [some (.ref (qx_ad X this)), some (.int x6), some (.int x8), some (.int x9)]) rfl (by decide) (by decide) rfl (fun _ => rfl) (fun x9 => ?_)
      exact qb_exit (fun σ h => qj_goto hX 25 rfl (by decide) (qj_wk (ρ' := [some (.ref (qx_ad X this)), some (.int x6), some (.int x8), some (.int x9)]) (qw_s (qw_s (qw_s (qw_s (qw_0))))) h))
  · intro s2
    refine qb_iload_n hX 26 rfl rfl ?_
    refine qb_iload_n hX 27 rfl rfl ?_
    refine qb_isub hX 28 rfl ?_
    exact qb_iret hX 29 rfl hR (fun _ h => h)
theorem jm_Press_difference {l : Launch} {G : qm_G} (hG : qm_GI G) (this : Nat) (hthis : (qm_kd this).1 = 13) : qm_MI l G jy_Press_difference prog_5_method_16_code 4 (some .int) 3 66 [.ref (G.1 this)] (jf_Press_difference this) :=
  qm_metI (by decide +kernel) jd_Press_difference (fun v hv => by simp only [List.mem_cons, List.not_mem_nil, or_false] at hv; rcases hv with rfl <;> rfl) (by exact Nat.le_of_ble_eq_true rfl) hG rfl (fun X hl hg hX r0 σ0 hR => by subst hl; subst hg; exact jb_Press_difference hX hR this hthis)
def jl_Press_columnOf : List qm_I := [(0, .iconst 0, 1, 1), (1, .istore_n 2, 1, 2), (2, .iload_n 2, 1, 3), (3, .aload_n 0, 1, 4), (4, .getfield 64, 3, 7), (7, .if_icmp .ge 31, 3, 10), (10, .aload_n 0, 1, 11), (11, .iload_n 2, 1, 12), (12, .iconst 3, 1, 13), (13, .invokevirtual 155, 3, 16), (16, .iload_n 1, 1, 17), (17, .if_icmp .gt 15, 3, 20), (20, .iload_n 1, 1, 21), (21, .aload_n 0, 1, 22), (22, .iload_n 2, 1, 23), (23, .iconst 4, 1, 24), (24, .invokevirtual 155, 3, 27), (27, .if_icmp .ge 5, 3, 30), (30, .iload_n 2, 1, 31), (31, .ireturn, 1, 32), (32, .iinc 2 1, 3, 35), (35, .goto (-33), 3, 38), (38, .iconst (-1), 1, 39), (39, .ireturn, 1, 40)]
theorem jd_Press_columnOf : qm_D prog_5_method_17_code jl_Press_columnOf := qm_D_of (by decide +kernel)
noncomputable def jf_Press_columnOf (this : Nat) (p1 : Int32) : qm_M Int32 :=
  mB (α := (Unit ⊕ Int32)) (
    mW (S := Int32) (α := (Unit ⊕ Int32)) (fun s2 =>
      mB (mGt this 4) fun x3 =>
      if x3 ≤ s2 then
        mP (Sum.inr (Sum.inl ()))
      else
        mB (jf_Press_cell this s2 3) fun x4 =>
        mB (α := (Unit ⊕ (Int32 ⊕ (Unit ⊕ Int32)))) (
          if p1 < x4 then
            mP (Sum.inl ())
          else
            mB (jf_Press_cell this s2 4) fun x6 =>
            if x6 ≤ p1 then
              mP (Sum.inl ())
            else
              mP (Sum.inr (Sum.inr (Sum.inr s2)))) (Sum.elim (fun s5 =>
          mB (mP (s2 + 1)) fun x7 =>
          mP (Sum.inl x7)) mP)) 0) (Sum.elim (fun s1 =>
    mP (-1)) mP)
set_option maxRecDepth 20000 in
set_option maxHeartbeats 4000000 in
theorem jb_Press_columnOf {X : qm_X} (hX : qm_ok X qr_Press prog_5_method_17_code 3 2 43 jl_Press_columnOf) {r0 : Int32} {σ0 : qm_Mem} (hR : qm_RI X r0 σ0 .int) (this : Nat) (p1 : Int32) (hthis : (qm_kd this).1 = 13) : qm_B X (jf_Press_columnOf this p1) 0 [some (.ref (qx_ad X this)), some (.int p1), none] [] (fun r σ1 => r = r0 ∧ σ1 = σ0) := by
  unfold jf_Press_columnOf
  refine qb_iconst hX 0 0 rfl (by decide) ?_
  refine qb_istore_n hX 1 ([some (.ref (qx_ad X this)), some (.int p1), some (.int 0)]) rfl (by decide) rfl ?_
  refine qb_join2 38 (fun s1 => [none, none, none]) (fun s1 => []) ?_ ?_
  ·
    refine qb_loopw (0) (fun s2 => [some (.ref (qx_ad X this)), some (.int p1), some (.int s2)]) (qw_s (qw_s (qw_s (qw_0)))) (fun s2 => ?_)
    refine qb_iload_n hX 2 rfl rfl ?_
    refine qb_aload_n hX 3 rfl rfl ?_
    refine qb_get hX 4 rfl fl_Press_64 hthis rfl (fun x3 => ?_)
    refine qb_icge hX 5 38 rfl (by decide) ?_ ?_
    ·
      exact qb_exit (fun σ h => qj_wk (ρ' := [none, none, none]) (qw_n (qw_n (qw_n (qw_0)))) h)
    ·
      refine qb_aload_n hX 6 rfl rfl ?_
      refine qb_iload_n hX 7 rfl rfl ?_
      refine qb_iconst hX 8 3 rfl (by decide) ?_
      refine qb_callI hX 9 rfl cv_Press_155 (jm_Press_cell (qk_GI hX) this s2 3 hthis ) (ci := 3) hthis ⟨rfl, rfl, rfl, by decide, by decide⟩ rfl (by exact Nat.le_of_ble_eq_true rfl) (fun x4 => ?_)
      refine qb_iload_n hX 10 rfl rfl ?_
      refine qb_join2 32 (fun s5 => [some (.ref (qx_ad X this)), some (.int p1), some (.int s2)]) (fun s5 => []) ?_ ?_
      ·
        refine qb_icgt hX 11 32 rfl (by decide) ?_ ?_
        ·
          exact qb_exit (fun σ h => qj_wk (ρ' := [some (.ref (qx_ad X this)), some (.int p1), some (.int s2)]) (qw_s (qw_s (qw_s (qw_0)))) h)
        ·
          refine qb_iload_n hX 12 rfl rfl ?_
          refine qb_aload_n hX 13 rfl rfl ?_
          refine qb_iload_n hX 14 rfl rfl ?_
          refine qb_iconst hX 15 4 rfl (by decide) ?_
          refine qb_callI hX 16 rfl cv_Press_155 (jm_Press_cell (qk_GI hX) this s2 4 hthis ) (ci := 3) hthis ⟨rfl, rfl, rfl, by decide, by decide⟩ rfl (by exact Nat.le_of_ble_eq_true rfl) (fun x6 => ?_)
          refine qb_icge hX 17 32 rfl (by decide) ?_ ?_
          ·
            exact qb_exit (fun σ h => qj_wk (ρ' := [some (.ref (qx_ad X this)), some (.int p1), some (.int s2)]) (qw_s (qw_s (qw_s (qw_0)))) h)
          ·
            refine qb_iload_n hX 18 rfl rfl ?_
            exact qb_iret hX 19 rfl hR (fun _ h => h)
      · intro s5
        refine qb_iinc hX 20 1 (fun x7 => [some (.ref (qx_ad X this)), some (.int p1), some (.int x7)]) rfl (by decide) (by decide) rfl (fun _ => rfl) (fun x7 => ?_)
        exact qb_exit (fun σ h => qj_goto hX 21 rfl (by decide) (qj_wk (ρ' := [some (.ref (qx_ad X this)), some (.int p1), some (.int x7)]) (qw_s (qw_s (qw_s (qw_0)))) h))
  · intro s1
    refine qb_iconst hX 22 (-1) rfl (by decide) ?_
    exact qb_iret hX 23 rfl hR (fun _ h => h)
theorem jm_Press_columnOf {l : Launch} {G : qm_G} (hG : qm_GI G) (this : Nat) (p1 : Int32) (hthis : (qm_kd this).1 = 13) : qm_MI l G jy_Press_columnOf prog_5_method_17_code 3 (some .int) 2 43 [.ref (G.1 this), .int p1] (jf_Press_columnOf this p1) :=
  qm_metI (by decide +kernel) jd_Press_columnOf (fun v hv => by simp only [List.mem_cons, List.not_mem_nil, or_false] at hv; rcases hv with rfl | rfl <;> rfl) (by exact Nat.le_of_ble_eq_true rfl) hG rfl (fun X hl hg hX r0 σ0 hR => by subst hl; subst hg; exact jb_Press_columnOf hX hR this p1 hthis)
def jl_Press_leftOfNote : List qm_I := [(0, .aload_n 0, 1, 1), (1, .getfield 20, 3, 4), (4, .iload_n 1, 1, 5), (5, .iconst 1, 1, 6), (6, .iadd, 1, 7), (7, .aload_n 0, 1, 8), (8, .iload_n 2, 1, 9), (9, .iconst 4, 1, 10), (10, .invokevirtual 155, 3, 13), (13, .invokevirtual 146, 3, 16), (16, .ifCond .ne 7, 3, 19), (19, .iconst 1, 1, 20), (20, .goto 4, 3, 23), (23, .iconst 0, 1, 24), (24, .istore_n 3, 1, 25), (25, .iload_n 3, 1, 26), (26, .ifCond .eq 29, 3, 29), (29, .aload_n 0, 1, 30), (30, .iload_n 2, 1, 31), (31, .bipush 6, 2, 33), (33, .invokevirtual 155, 3, 36), (36, .aload_n 0, 1, 37), (37, .iload_n 2, 1, 38), (38, .bipush 7, 2, 40), (40, .invokevirtual 155, 3, 43), (43, .iadd, 1, 44), (44, .aload_n 0, 1, 45), (45, .iload_n 2, 1, 46), (46, .bipush 8, 2, 48), (48, .invokevirtual 155, 3, 51), (51, .isub, 1, 52), (52, .goto 4, 3, 55), (55, .iconst 0, 1, 56), (56, .ireturn, 1, 57)]
theorem jd_Press_leftOfNote : qm_D prog_5_method_18_code jl_Press_leftOfNote := qm_D_of (by decide +kernel)
noncomputable def jf_Press_leftOfNote (this : Nat) (p1 : Int32) (p2 : Int32) : qm_M Int32 :=
  mB (jf_Press_cell this p2 4) fun x1 =>
  mB (jf_Flow_ownLines (qm_rf this 1) (p1 + 1) x1) fun x2 =>
  mB (α := Int32) (
    if ¬ x2 = 0 then
      mP 0
    else
      mP 1) fun s3 =>
  if s3 = 0 then
    mP 0
  else
    mB (jf_Press_cell this p2 6) fun x4 =>
    mB (jf_Press_cell this p2 7) fun x5 =>
    mB (jf_Press_cell this p2 8) fun x6 =>
    mP ((x4 + x5) - x6)
set_option maxRecDepth 20000 in
set_option maxHeartbeats 4000000 in
theorem jb_Press_leftOfNote {X : qm_X} (hX : qm_ok X qr_Press prog_5_method_18_code 4 2 43 jl_Press_leftOfNote) {r0 : Int32} {σ0 : qm_Mem} (hR : qm_RI X r0 σ0 .int) (this : Nat) (p1 : Int32) (p2 : Int32) (hthis : (qm_kd this).1 = 13) : qm_B X (jf_Press_leftOfNote this p1 p2) 0 [some (.ref (qx_ad X this)), some (.int p1), some (.int p2), none] [] (fun r σ1 => r = r0 ∧ σ1 = σ0) := by
  unfold jf_Press_leftOfNote
  refine qb_aload_n hX 0 rfl rfl ?_
  refine qb_getR hX 1 rfl fl_Press_20 hthis rfl ?_
  refine qb_iload_n hX 2 rfl rfl ?_
  refine qb_iconst hX 3 1 rfl (by decide) ?_
  refine qb_iadd hX 4 rfl ?_
  refine qb_aload_n hX 5 rfl rfl ?_
  refine qb_iload_n hX 6 rfl rfl ?_
  refine qb_iconst hX 7 4 rfl (by decide) ?_
  refine qb_callI hX 8 rfl cv_Press_155 (jm_Press_cell (qk_GI hX) this p2 4 hthis ) (ci := 3) hthis ⟨rfl, rfl, rfl, by decide, by decide⟩ rfl (by exact Nat.le_of_ble_eq_true rfl) (fun x1 => ?_)
  refine qb_callI hX 9 rfl cv_Press_146 (jm_Flow_ownLines (qk_GI hX) (qm_rf this 1) (p1 + 1) x1 (kf_Press_1 hthis) ) (ci := 1) (kf_Press_1 hthis) ⟨rfl, rfl, rfl, by decide, by decide⟩ rfl (by exact Nat.le_of_ble_eq_true rfl) (fun x2 => ?_)
  refine qb_join 24 (fun s3 => [some (.ref (qx_ad X this)), none, some (.int p2), none]) (fun s3 => [.int s3]) ?_ ?_
  ·
    refine qb_ifne hX 10 23 rfl (by decide) ?_ ?_
    ·
      refine qb_iconst hX 13 0 rfl (by decide) ?_
      exact qb_exit (fun σ h => qj_wk (ρ' := [some (.ref (qx_ad X this)), none, some (.int p2), none]) (qw_s (qw_n (qw_s (qw_n (qw_0))))) h)
    ·
      refine qb_iconst hX 11 1 rfl (by decide) ?_
      exact qb_exit (fun σ h => qj_goto hX 12 rfl (by decide) (qj_wk (ρ' := [some (.ref (qx_ad X this)), none, some (.int p2), none]) (qw_s (qw_n (qw_s (qw_n (qw_0))))) h))
  · intro s3
    refine qb_istore_n hX 14 ([some (.ref (qx_ad X this)), none, some (.int p2), some (.int s3)]) rfl (by decide) rfl ?_
    refine qb_iload_n hX 15 rfl rfl ?_
    refine qb_ifeq hX 16 55 rfl (by decide) ?_ ?_
    ·
      refine qb_iconst hX 32 0 rfl (by decide) ?_
      exact qb_iret hX 33 rfl hR (fun _ h => h)
    ·
      refine qb_aload_n hX 17 rfl rfl ?_
      refine qb_iload_n hX 18 rfl rfl ?_
      refine qb_bipush hX 19 6 rfl (by decide) ?_
      refine qb_callI hX 20 rfl cv_Press_155 (jm_Press_cell (qk_GI hX) this p2 6 hthis ) (ci := 3) hthis ⟨rfl, rfl, rfl, by decide, by decide⟩ rfl (by exact Nat.le_of_ble_eq_true rfl) (fun x4 => ?_)
      refine qb_aload_n hX 21 rfl rfl ?_
      refine qb_iload_n hX 22 rfl rfl ?_
      refine qb_bipush hX 23 7 rfl (by decide) ?_
      refine qb_callI hX 24 rfl cv_Press_155 (jm_Press_cell (qk_GI hX) this p2 7 hthis ) (ci := 3) hthis ⟨rfl, rfl, rfl, by decide, by decide⟩ rfl (by exact Nat.le_of_ble_eq_true rfl) (fun x5 => ?_)
      refine qb_iadd hX 25 rfl ?_
      refine qb_aload_n hX 26 rfl rfl ?_
      refine qb_iload_n hX 27 rfl rfl ?_
      refine qb_bipush hX 28 8 rfl (by decide) ?_
      refine qb_callI hX 29 rfl cv_Press_155 (jm_Press_cell (qk_GI hX) this p2 8 hthis ) (ci := 3) hthis ⟨rfl, rfl, rfl, by decide, by decide⟩ rfl (by exact Nat.le_of_ble_eq_true rfl) (fun x6 => ?_)
      refine qb_isub hX 30 rfl ?_
      refine qb_goto hX 31 (tgt := 56) rfl (by decide) ?_
      exact qb_iret hX 33 rfl hR (fun _ h => h)
theorem jm_Press_leftOfNote {l : Launch} {G : qm_G} (hG : qm_GI G) (this : Nat) (p1 : Int32) (p2 : Int32) (hthis : (qm_kd this).1 = 13) : qm_MI l G jy_Press_leftOfNote prog_5_method_18_code 4 (some .int) 2 43 [.ref (G.1 this), .int p1, .int p2] (jf_Press_leftOfNote this p1 p2) :=
  qm_metI (by decide +kernel) jd_Press_leftOfNote (fun v hv => by simp only [List.mem_cons, List.not_mem_nil, or_false] at hv; rcases hv with rfl | rfl | rfl <;> rfl) (by exact Nat.le_of_ble_eq_true rfl) hG rfl (fun X hl hg hX r0 σ0 hR => by subst hl; subst hg; exact jb_Press_leftOfNote hX hR this p1 p2 hthis)
def jl_Press_linesByMark : List qm_I := [(0, .aload_n 0, 1, 1), (1, .iload_n 1, 1, 2), (2, .invokevirtual 164, 3, 5), (5, .istore_n 2, 1, 6), (6, .iload_n 2, 1, 7), (7, .iconst (-1), 1, 8), (8, .if_icmp .ne 8, 3, 11), (11, .bipush (-2), 2, 13), (13, .goto 21, 3, 16), (16, .aload_n 0, 1, 17), (17, .getfield 20, 3, 20), (20, .getfield 167, 3, 23), (23, .iload_n 1, 1, 24), (24, .invokestatic 88, 3, 27), (27, .aload_n 0, 1, 28), (28, .iload_n 1, 1, 29), (29, .iload_n 2, 1, 30), (30, .invokevirtual 170, 3, 33), (33, .isub, 1, 34), (34, .ireturn, 1, 35)]
theorem jd_Press_linesByMark : qm_D prog_5_method_19_code jl_Press_linesByMark := qm_D_of (by decide +kernel)
noncomputable def jf_Press_linesByMark (this : Nat) (p1 : Int32) : qm_M Int32 :=
  mB (jf_Press_columnOf this p1) fun x1 =>
  if ¬ x1 = (-1) then
    mB (jf_Top_at (qm_rf (qm_rf this 1) 9) p1) fun x2 =>
    mB (jf_Press_leftOfNote this p1 x1) fun x3 =>
    mP (x2 - x3)
  else
    mP (-2)
set_option maxRecDepth 20000 in
set_option maxHeartbeats 4000000 in
theorem jb_Press_linesByMark {X : qm_X} (hX : qm_ok X qr_Press prog_5_method_19_code 3 3 66 jl_Press_linesByMark) {r0 : Int32} {σ0 : qm_Mem} (hR : qm_RI X r0 σ0 .int) (this : Nat) (p1 : Int32) (hthis : (qm_kd this).1 = 13) : qm_B X (jf_Press_linesByMark this p1) 0 [some (.ref (qx_ad X this)), some (.int p1), none] [] (fun r σ1 => r = r0 ∧ σ1 = σ0) := by
  unfold jf_Press_linesByMark
  refine qb_aload_n hX 0 rfl rfl ?_
  refine qb_iload_n hX 1 rfl rfl ?_
  refine qb_callI hX 2 rfl cv_Press_164 (jm_Press_columnOf (qk_GI hX) this p1 hthis ) (ci := 3) hthis ⟨rfl, rfl, rfl, by decide, by decide⟩ rfl (by exact Nat.le_of_ble_eq_true rfl) (fun x1 => ?_)
  refine qb_istore_n hX 3 ([some (.ref (qx_ad X this)), some (.int p1), some (.int x1)]) rfl (by decide) rfl ?_
  refine qb_iload_n hX 4 rfl rfl ?_
  refine qb_iconst hX 5 (-1) rfl (by decide) ?_
  refine qb_icne hX 6 16 rfl (by decide) ?_ ?_
  ·
    refine qb_aload_n hX 9 rfl rfl ?_
    refine qb_getR hX 10 rfl fl_Press_20 hthis rfl ?_
    refine qb_getR hX 11 rfl fl_Press_167 (kf_Press_1 hthis) rfl ?_
    refine qb_iload_n hX 12 rfl rfl ?_
    refine qb_calNI hX 13 rfl cv_Press_88 (jm_Top_at (qk_GI hX) (qm_rf (qm_rf this 1) 9) p1 (kf_Flow_9 (kf_Press_1 hthis))) ⟨rfl, by decide, by decide⟩ rfl (by exact Nat.le_of_ble_eq_true rfl) (fun x2 => ?_)
    refine qb_aload_n hX 14 rfl rfl ?_
    refine qb_iload_n hX 15 rfl rfl ?_
    refine qb_iload_n hX 16 rfl rfl ?_
    refine qb_callI hX 17 rfl cv_Press_170 (jm_Press_leftOfNote (qk_GI hX) this p1 x1 hthis ) (ci := 3) hthis ⟨rfl, rfl, rfl, by decide, by decide⟩ rfl (by exact Nat.le_of_ble_eq_true rfl) (fun x3 => ?_)
    refine qb_isub hX 18 rfl ?_
    exact qb_iret hX 19 rfl hR (fun _ h => h)
  ·
    refine qb_bipush hX 7 (-2) rfl (by decide) ?_
    refine qb_goto hX 8 (tgt := 34) rfl (by decide) ?_
    exact qb_iret hX 19 rfl hR (fun _ h => h)
theorem jm_Press_linesByMark {l : Launch} {G : qm_G} (hG : qm_GI G) (this : Nat) (p1 : Int32) (hthis : (qm_kd this).1 = 13) : qm_MI l G jy_Press_linesByMark prog_5_method_19_code 3 (some .int) 3 66 [.ref (G.1 this), .int p1] (jf_Press_linesByMark this p1) :=
  qm_metI (by decide +kernel) jd_Press_linesByMark (fun v hv => by simp only [List.mem_cons, List.not_mem_nil, or_false] at hv; rcases hv with rfl | rfl <;> rfl) (by exact Nat.le_of_ble_eq_true rfl) hG rfl (fun X hl hg hX r0 σ0 hR => by subst hl; subst hg; exact jb_Press_linesByMark hX hR this p1 hthis)
def jl_Press_columnsOfNote : List qm_I := [(0, .aload_n 0, 1, 1), (1, .iload_n 1, 1, 2), (2, .invokevirtual 164, 3, 5), (5, .istore_n 2, 1, 6), (6, .iload_n 2, 1, 7), (7, .iconst (-1), 1, 8), (8, .if_icmp .ne 6, 3, 11), (11, .bipush (-2), 2, 13), (13, .ireturn, 1, 14), (14, .iconst 1, 1, 15), (15, .istore_n 3, 1, 16), (16, .aload_n 0, 1, 17), (17, .iload_n 1, 1, 18), (18, .iload_n 2, 1, 19), (19, .invokevirtual 170, 3, 22), (22, .istore 4, 2, 24), (24, .iload_n 2, 1, 25), (25, .iconst 1, 1, 26), (26, .iadd, 1, 27), (27, .istore 5, 2, 29), (29, .iload 5, 2, 31), (31, .aload_n 0, 1, 32), (32, .getfield 64, 3, 35), (35, .if_icmp .ge 41, 3, 38), (38, .iload 4, 2, 40), (40, .ifCond .le 36, 3, 43), (43, .aload_n 0, 1, 44), (44, .iload 5, 2, 46), (46, .bipush 8, 2, 48), (48, .invokevirtual 155, 3, 51), (51, .ifCond .le 6, 3, 54), (54, .iinc 3 1, 3, 57), (57, .iload 4, 2, 59), (59, .aload_n 0, 1, 60), (60, .iload 5, 2, 62), (62, .bipush 8, 2, 64), (64, .invokevirtual 155, 3, 67), (67, .isub, 1, 68), (68, .istore 4, 2, 70), (70, .iinc 5 1, 3, 73), (73, .goto (-44), 3, 76), (76, .iload_n 3, 1, 77), (77, .ireturn, 1, 78)]
theorem jd_Press_columnsOfNote : qm_D prog_5_method_20_code jl_Press_columnsOfNote := qm_D_of (by decide +kernel)
noncomputable def jf_Press_columnsOfNote (this : Nat) (p1 : Int32) : qm_M Int32 :=
  mB (jf_Press_columnOf this p1) fun x1 =>
  if ¬ x1 = (-1) then
    mB (jf_Press_leftOfNote this p1 x1) fun x2 =>
    mB (mP (x1 + 1)) fun x3 =>
    mB (α := Int32) (
      mW (S := Int32 × Int32 × Int32) (α := Int32) (fun s5 =>
        mB (mGt this 4) fun x6 =>
        if x6 ≤ s5.2.2 then
          mP (Sum.inr s5.1)
        else
          if s5.2.1 ≤ 0 then
            mP (Sum.inr s5.1)
          else
            mB (jf_Press_cell this s5.2.2 8) fun x7 =>
            mB (α := Int32) (
              if x7 ≤ 0 then
                mP s5.1
              else
                mB (mP (s5.1 + 1)) fun x9 =>
                mP x9) fun s8 =>
            mB (jf_Press_cell this s5.2.2 8) fun x10 =>
            mB (mP (s5.2.1 - x10)) fun x11 =>
            mB (mP (s5.2.2 + 1)) fun x12 =>
            mP (Sum.inl (s8, x11, x12))) (1, x2, x3)) fun s4 =>
    mP s4
  else
    mP (-2)
set_option maxRecDepth 20000 in
set_option maxHeartbeats 4000000 in
theorem jb_Press_columnsOfNote {X : qm_X} (hX : qm_ok X qr_Press prog_5_method_20_code 6 3 66 jl_Press_columnsOfNote) {r0 : Int32} {σ0 : qm_Mem} (hR : qm_RI X r0 σ0 .int) (this : Nat) (p1 : Int32) (hthis : (qm_kd this).1 = 13) : qm_B X (jf_Press_columnsOfNote this p1) 0 [some (.ref (qx_ad X this)), some (.int p1), none, none, none, none] [] (fun r σ1 => r = r0 ∧ σ1 = σ0) := by
  unfold jf_Press_columnsOfNote
  refine qb_aload_n hX 0 rfl rfl ?_
  refine qb_iload_n hX 1 rfl rfl ?_
  refine qb_callI hX 2 rfl cv_Press_164 (jm_Press_columnOf (qk_GI hX) this p1 hthis ) (ci := 3) hthis ⟨rfl, rfl, rfl, by decide, by decide⟩ rfl (by exact Nat.le_of_ble_eq_true rfl) (fun x1 => ?_)
  refine qb_istore_n hX 3 ([some (.ref (qx_ad X this)), some (.int p1), some (.int x1), none, none, none]) rfl (by decide) rfl ?_
  refine qb_iload_n hX 4 rfl rfl ?_
  refine qb_iconst hX 5 (-1) rfl (by decide) ?_
  refine qb_icne hX 6 14 rfl (by decide) ?_ ?_
  ·
    refine qb_iconst hX 9 1 rfl (by decide) ?_
    refine qb_istore_n hX 10 ([some (.ref (qx_ad X this)), some (.int p1), some (.int x1), some (.int 1), none, none]) rfl (by decide) rfl ?_
    refine qb_aload_n hX 11 rfl rfl ?_
    refine qb_iload_n hX 12 rfl rfl ?_
    refine qb_iload_n hX 13 rfl rfl ?_
    refine qb_callI hX 14 rfl cv_Press_170 (jm_Press_leftOfNote (qk_GI hX) this p1 x1 hthis ) (ci := 3) hthis ⟨rfl, rfl, rfl, by decide, by decide⟩ rfl (by exact Nat.le_of_ble_eq_true rfl) (fun x2 => ?_)
    refine qb_istore hX 15 ([some (.ref (qx_ad X this)), some (.int p1), some (.int x1), some (.int 1), some (.int x2), none]) rfl (by decide) rfl ?_
    refine qb_iload_n hX 16 rfl rfl ?_
    refine qb_iconst hX 17 1 rfl (by decide) ?_
    refine qb_iadd hX 18 rfl ?_
    refine qb_istoreL hX 19 (fun x3 => [some (.ref (qx_ad X this)), some (.int p1), some (.int x1), some (.int 1), some (.int x2), some (.int x3)]) rfl (by decide) (fun _ => rfl) (fun x3 => ?_)
    refine qb_join 76 (fun s4 => [none, none, none, some (.int s4), none, none]) (fun s4 => []) ?_ ?_
    ·
      refine qb_loopw ((1, x2, x3)) (fun s5 => [some (.ref (qx_ad X this)), none, none, some (.int s5.1), some (.int s5.2.1), some (.int s5.2.2)]) (qw_s (qw_n (qw_n (qw_s (qw_s (qw_s (qw_0))))))) (fun s5 => ?_)
      refine qb_iload hX 20 rfl rfl ?_
      refine qb_aload_n hX 21 rfl rfl ?_
      refine qb_get hX 22 rfl fl_Press_64 hthis rfl (fun x6 => ?_)
      refine qb_icge hX 23 76 rfl (by decide) ?_ ?_
      ·
        exact qb_exit (fun σ h => qj_wk (ρ' := [none, none, none, some (.int s5.1), none, none]) (qw_n (qw_n (qw_n (qw_s (qw_n (qw_n (qw_0))))))) h)
      ·
        refine qb_iload hX 24 rfl rfl ?_
        refine qb_ifle hX 25 76 rfl (by decide) ?_ ?_
        ·
          exact qb_exit (fun σ h => qj_wk (ρ' := [none, none, none, some (.int s5.1), none, none]) (qw_n (qw_n (qw_n (qw_s (qw_n (qw_n (qw_0))))))) h)
        ·
          refine qb_aload_n hX 26 rfl rfl ?_
          refine qb_iload hX 27 rfl rfl ?_
          refine qb_bipush hX 28 8 rfl (by decide) ?_
          refine qb_callI hX 29 rfl cv_Press_155 (jm_Press_cell (qk_GI hX) this s5.2.2 8 hthis ) (ci := 3) hthis ⟨rfl, rfl, rfl, by decide, by decide⟩ rfl (by exact Nat.le_of_ble_eq_true rfl) (fun x7 => ?_)
          refine qb_join 57 (fun s8 => [some (.ref (qx_ad X this)), none, none, some (.int s8), some (.int s5.2.1), some (.int s5.2.2)]) (fun s8 => []) ?_ ?_
          ·
            refine qb_ifle hX 30 57 rfl (by decide) ?_ ?_
            ·
              exact qb_exit (fun σ h => qj_wk (ρ' := [some (.ref (qx_ad X this)), none, none, some (.int s5.1), some (.int s5.2.1), some (.int s5.2.2)]) (qw_s (qw_n (qw_n (qw_s (qw_s (qw_s (qw_0))))))) h)
            ·
              refine qb_iinc hX 31 1 (fun x9 => [some (.ref (qx_ad X this)), none, none, some (.int x9), some (.int s5.2.1), some (.int s5.2.2)]) rfl (by decide) (by decide) rfl (fun _ => rfl) (fun x9 => ?_)
              exact qb_exit (fun σ h => qj_wk (ρ' := [some (.ref (qx_ad X this)), none, none, some (.int x9), some (.int s5.2.1), some (.int s5.2.2)]) (qw_s (qw_n (qw_n (qw_s (qw_s (qw_s (qw_0))))))) h)
          · intro s8
            refine qb_iload hX 32 rfl rfl ?_
            refine qb_aload_n hX 33 rfl rfl ?_
            refine qb_iload hX 34 rfl rfl ?_
            refine qb_bipush hX 35 8 rfl (by decide) ?_
            refine qb_callI hX 36 rfl cv_Press_155 (jm_Press_cell (qk_GI hX) this s5.2.2 8 hthis ) (ci := 3) hthis ⟨rfl, rfl, rfl, by decide, by decide⟩ rfl (by exact Nat.le_of_ble_eq_true rfl) (fun x10 => ?_)
            refine qb_isub hX 37 rfl ?_
            refine qb_istoreL hX 38 (fun x11 => [some (.ref (qx_ad X this)), none, none, some (.int s8), some (.int x11), some (.int s5.2.2)]) rfl (by decide) (fun _ => rfl) (fun x11 => ?_)
            refine qb_iinc hX 39 1 (fun x12 => [some (.ref (qx_ad X this)), none, none, some (.int s8), some (.int x11), some (.int x12)]) rfl (by decide) (by decide) rfl (fun _ => rfl) (fun x12 => ?_)
            exact qb_exit (fun σ h => qj_goto hX 40 rfl (by decide) (qj_wk (ρ' := [some (.ref (qx_ad X this)), none, none, some (.int s8), some (.int x11), some (.int x12)]) (qw_s (qw_n (qw_n (qw_s (qw_s (qw_s (qw_0))))))) h))
    · intro s4
      refine qb_iload_n hX 41 rfl rfl ?_
      exact qb_iret hX 42 rfl hR (fun _ h => h)
  ·
    refine qb_bipush hX 7 (-2) rfl (by decide) ?_
    exact qb_iret hX 8 rfl hR (fun _ h => h)
theorem jm_Press_columnsOfNote {l : Launch} {G : qm_G} (hG : qm_GI G) (this : Nat) (p1 : Int32) (hthis : (qm_kd this).1 = 13) : qm_MI l G jy_Press_columnsOfNote prog_5_method_20_code 6 (some .int) 3 66 [.ref (G.1 this), .int p1] (jf_Press_columnsOfNote this p1) :=
  qm_metI (by decide +kernel) jd_Press_columnsOfNote (fun v hv => by simp only [List.mem_cons, List.not_mem_nil, or_false] at hv; rcases hv with rfl | rfl <;> rfl) (by exact Nat.le_of_ble_eq_true rfl) hG rfl (fun X hl hg hX r0 σ0 hR => by subst hl; subst hg; exact jb_Press_columnsOfNote hX hR this p1 hthis)
def jl_Press_columnsOn : List qm_I := [(0, .iconst 0, 1, 1), (1, .istore_n 2, 1, 2), (2, .iconst 0, 1, 3), (3, .istore_n 3, 1, 4), (4, .iload_n 3, 1, 5), (5, .aload_n 0, 1, 6), (6, .getfield 64, 3, 9), (9, .if_icmp .ge 27, 3, 12), (12, .iload_n 2, 1, 13), (13, .aload_n 0, 1, 14), (14, .iload_n 3, 1, 15), (15, .iconst 0, 1, 16), (16, .invokevirtual 155, 3, 19), (19, .iload_n 1, 1, 20), (20, .if_icmp .ne 7, 3, 23), (23, .iconst 1, 1, 24), (24, .goto 4, 3, 27), (27, .iconst 0, 1, 28), (28, .iadd, 1, 29), (29, .istore_n 2, 1, 30), (30, .iinc 3 1, 3, 33), (33, .goto (-29), 3, 36), (36, .iload_n 2, 1, 37), (37, .ireturn, 1, 38)]
theorem jd_Press_columnsOn : qm_D prog_5_method_21_code jl_Press_columnsOn := qm_D_of (by decide +kernel)
noncomputable def jf_Press_columnsOn (this : Nat) (p1 : Int32) : qm_M Int32 :=
  mB (α := Int32) (
    mW (S := Int32 × Int32) (α := Int32) (fun s2 =>
      mB (mGt this 4) fun x3 =>
      if x3 ≤ s2.2 then
        mP (Sum.inr s2.1)
      else
        mB (jf_Press_cell this s2.2 0) fun x4 =>
        mB (α := Int32) (
          if ¬ x4 = p1 then
            mP 0
          else
            mP 1) fun s5 =>
        mB (mP (s2.1 + s5)) fun x6 =>
        mB (mP (s2.2 + 1)) fun x7 =>
        mP (Sum.inl (x6, x7))) (0, 0)) fun s1 =>
  mP s1
set_option maxRecDepth 20000 in
set_option maxHeartbeats 4000000 in
theorem jb_Press_columnsOn {X : qm_X} (hX : qm_ok X qr_Press prog_5_method_21_code 4 2 43 jl_Press_columnsOn) {r0 : Int32} {σ0 : qm_Mem} (hR : qm_RI X r0 σ0 .int) (this : Nat) (p1 : Int32) (hthis : (qm_kd this).1 = 13) : qm_B X (jf_Press_columnsOn this p1) 0 [some (.ref (qx_ad X this)), some (.int p1), none, none] [] (fun r σ1 => r = r0 ∧ σ1 = σ0) := by
  unfold jf_Press_columnsOn
  refine qb_iconst hX 0 0 rfl (by decide) ?_
  refine qb_istore_n hX 1 ([some (.ref (qx_ad X this)), some (.int p1), some (.int 0), none]) rfl (by decide) rfl ?_
  refine qb_iconst hX 2 0 rfl (by decide) ?_
  refine qb_istore_n hX 3 ([some (.ref (qx_ad X this)), some (.int p1), some (.int 0), some (.int 0)]) rfl (by decide) rfl ?_
  refine qb_join 36 (fun s1 => [none, none, some (.int s1), none]) (fun s1 => []) ?_ ?_
  ·
    refine qb_loopw ((0, 0)) (fun s2 => [some (.ref (qx_ad X this)), some (.int p1), some (.int s2.1), some (.int s2.2)]) (qw_s (qw_s (qw_s (qw_s (qw_0))))) (fun s2 => ?_)
    refine qb_iload_n hX 4 rfl rfl ?_
    refine qb_aload_n hX 5 rfl rfl ?_
    refine qb_get hX 6 rfl fl_Press_64 hthis rfl (fun x3 => ?_)
    refine qb_icge hX 7 36 rfl (by decide) ?_ ?_
    ·
      exact qb_exit (fun σ h => qj_wk (ρ' := [none, none, some (.int s2.1), none]) (qw_n (qw_n (qw_s (qw_n (qw_0))))) h)
    ·
      refine qb_iload_n hX 8 rfl rfl ?_
      refine qb_aload_n hX 9 rfl rfl ?_
      refine qb_iload_n hX 10 rfl rfl ?_
      refine qb_iconst hX 11 0 rfl (by decide) ?_
      refine qb_callI hX 12 rfl cv_Press_155 (jm_Press_cell (qk_GI hX) this s2.2 0 hthis ) (ci := 3) hthis ⟨rfl, rfl, rfl, by decide, by decide⟩ rfl (by exact Nat.le_of_ble_eq_true rfl) (fun x4 => ?_)
      refine qb_iload_n hX 13 rfl rfl ?_
      refine qb_join 28 (fun s5 => [some (.ref (qx_ad X this)), some (.int p1), none, some (.int s2.2)]) (fun s5 => [.int s5, .int s2.1]) ?_ ?_
      ·
        refine qb_icne hX 14 27 rfl (by decide) ?_ ?_
        ·
          refine qb_iconst hX 17 0 rfl (by decide) ?_
          exact qb_exit (fun σ h => qj_wk (ρ' := [some (.ref (qx_ad X this)), some (.int p1), none, some (.int s2.2)]) (qw_s (qw_s (qw_n (qw_s (qw_0))))) h)
        ·
          refine qb_iconst hX 15 1 rfl (by decide) ?_
          exact qb_exit (fun σ h => qj_goto hX 16 rfl (by decide) (qj_wk (ρ' := [some (.ref (qx_ad X this)), some (.int p1), none, some (.int s2.2)]) (qw_s (qw_s (qw_n (qw_s (qw_0))))) h))
      · intro s5
        refine qb_iadd hX 18 rfl ?_
        refine qb_istore_nL hX 19 (fun x6 => [some (.ref (qx_ad X this)), some (.int p1), some (.int x6), some (.int s2.2)]) rfl (by decide) (fun _ => rfl) (fun x6 => ?_)
        refine qb_iinc hX 20 1 (fun x7 => [some (.ref (qx_ad X this)), some (.int p1), some (.int x6), some (.int x7)]) rfl (by decide) (by decide) rfl (fun _ => rfl) (fun x7 => ?_)
        exact qb_exit (fun σ h => qj_goto hX 21 rfl (by decide) (qj_wk (ρ' := [some (.ref (qx_ad X this)), some (.int p1), some (.int x6), some (.int x7)]) (qw_s (qw_s (qw_s (qw_s (qw_0))))) h))
  · intro s1
    refine qb_iload_n hX 22 rfl rfl ?_
    exact qb_iret hX 23 rfl hR (fun _ h => h)
theorem jm_Press_columnsOn {l : Launch} {G : qm_G} (hG : qm_GI G) (this : Nat) (p1 : Int32) (hthis : (qm_kd this).1 = 13) : qm_MI l G jy_Press_columnsOn prog_5_method_21_code 4 (some .int) 2 43 [.ref (G.1 this), .int p1] (jf_Press_columnsOn this p1) :=
  qm_metI (by decide +kernel) jd_Press_columnsOn (fun v hv => by simp only [List.mem_cons, List.not_mem_nil, or_false] at hv; rcases hv with rfl | rfl <;> rfl) (by exact Nat.le_of_ble_eq_true rfl) hG rfl (fun X hl hg hX r0 σ0 hR => by subst hl; subst hg; exact jb_Press_columnsOn hX hR this p1 hthis)
def jl_Press_piecesOn : List qm_I := [(0, .iconst 0, 1, 1), (1, .istore_n 2, 1, 2), (2, .iconst 0, 1, 3), (3, .istore_n 3, 1, 4), (4, .iload_n 3, 1, 5), (5, .aload_n 0, 1, 6), (6, .getfield 64, 3, 9), (9, .if_icmp .ge 39, 3, 12), (12, .iload_n 2, 1, 13), (13, .aload_n 0, 1, 14), (14, .iload_n 3, 1, 15), (15, .iconst 0, 1, 16), (16, .invokevirtual 155, 3, 19), (19, .iload_n 1, 1, 20), (20, .if_icmp .ne 19, 3, 23), (23, .aload_n 0, 1, 24), (24, .iload_n 3, 1, 25), (25, .iconst 4, 1, 26), (26, .invokevirtual 155, 3, 29), (29, .aload_n 0, 1, 30), (30, .iload_n 3, 1, 31), (31, .iconst 3, 1, 32), (32, .invokevirtual 155, 3, 35), (35, .isub, 1, 36), (36, .goto 4, 3, 39), (39, .iconst 0, 1, 40), (40, .iadd, 1, 41), (41, .istore_n 2, 1, 42), (42, .iinc 3 1, 3, 45), (45, .goto (-41), 3, 48), (48, .iload_n 2, 1, 49), (49, .ireturn, 1, 50)]
theorem jd_Press_piecesOn : qm_D prog_5_method_22_code jl_Press_piecesOn := qm_D_of (by decide +kernel)
noncomputable def jf_Press_piecesOn (this : Nat) (p1 : Int32) : qm_M Int32 :=
  mB (α := Int32) (
    mW (S := Int32 × Int32) (α := Int32) (fun s2 =>
      mB (mGt this 4) fun x3 =>
      if x3 ≤ s2.2 then
        mP (Sum.inr s2.1)
      else
        mB (jf_Press_cell this s2.2 0) fun x4 =>
        mB (α := Int32) (
          if ¬ x4 = p1 then
            mP 0
          else
            mB (jf_Press_cell this s2.2 4) fun x6 =>
            mB (jf_Press_cell this s2.2 3) fun x7 =>
            mP (x6 - x7)) fun s5 =>
        mB (mP (s2.1 + s5)) fun x8 =>
        mB (mP (s2.2 + 1)) fun x9 =>
        mP (Sum.inl (x8, x9))) (0, 0)) fun s1 =>
  mP s1
set_option maxRecDepth 20000 in
set_option maxHeartbeats 4000000 in
theorem jb_Press_piecesOn {X : qm_X} (hX : qm_ok X qr_Press prog_5_method_22_code 4 2 43 jl_Press_piecesOn) {r0 : Int32} {σ0 : qm_Mem} (hR : qm_RI X r0 σ0 .int) (this : Nat) (p1 : Int32) (hthis : (qm_kd this).1 = 13) : qm_B X (jf_Press_piecesOn this p1) 0 [some (.ref (qx_ad X this)), some (.int p1), none, none] [] (fun r σ1 => r = r0 ∧ σ1 = σ0) := by
  unfold jf_Press_piecesOn
  refine qb_iconst hX 0 0 rfl (by decide) ?_
  refine qb_istore_n hX 1 ([some (.ref (qx_ad X this)), some (.int p1), some (.int 0), none]) rfl (by decide) rfl ?_
  refine qb_iconst hX 2 0 rfl (by decide) ?_
  refine qb_istore_n hX 3 ([some (.ref (qx_ad X this)), some (.int p1), some (.int 0), some (.int 0)]) rfl (by decide) rfl ?_
  refine qb_join 48 (fun s1 => [none, none, some (.int s1), none]) (fun s1 => []) ?_ ?_
  ·
    refine qb_loopw ((0, 0)) (fun s2 => [some (.ref (qx_ad X this)), some (.int p1), some (.int s2.1), some (.int s2.2)]) (qw_s (qw_s (qw_s (qw_s (qw_0))))) (fun s2 => ?_)
    refine qb_iload_n hX 4 rfl rfl ?_
    refine qb_aload_n hX 5 rfl rfl ?_
    refine qb_get hX 6 rfl fl_Press_64 hthis rfl (fun x3 => ?_)
    refine qb_icge hX 7 48 rfl (by decide) ?_ ?_
    ·
      exact qb_exit (fun σ h => qj_wk (ρ' := [none, none, some (.int s2.1), none]) (qw_n (qw_n (qw_s (qw_n (qw_0))))) h)
    ·
      refine qb_iload_n hX 8 rfl rfl ?_
      refine qb_aload_n hX 9 rfl rfl ?_
      refine qb_iload_n hX 10 rfl rfl ?_
      refine qb_iconst hX 11 0 rfl (by decide) ?_
      refine qb_callI hX 12 rfl cv_Press_155 (jm_Press_cell (qk_GI hX) this s2.2 0 hthis ) (ci := 3) hthis ⟨rfl, rfl, rfl, by decide, by decide⟩ rfl (by exact Nat.le_of_ble_eq_true rfl) (fun x4 => ?_)
      refine qb_iload_n hX 13 rfl rfl ?_
      refine qb_join 40 (fun s5 => [some (.ref (qx_ad X this)), some (.int p1), none, some (.int s2.2)]) (fun s5 => [.int s5, .int s2.1]) ?_ ?_
      ·
        refine qb_icne hX 14 39 rfl (by decide) ?_ ?_
        ·
          refine qb_iconst hX 25 0 rfl (by decide) ?_
          exact qb_exit (fun σ h => qj_wk (ρ' := [some (.ref (qx_ad X this)), some (.int p1), none, some (.int s2.2)]) (qw_s (qw_s (qw_n (qw_s (qw_0))))) h)
        ·
          refine qb_aload_n hX 15 rfl rfl ?_
          refine qb_iload_n hX 16 rfl rfl ?_
          refine qb_iconst hX 17 4 rfl (by decide) ?_
          refine qb_callI hX 18 rfl cv_Press_155 (jm_Press_cell (qk_GI hX) this s2.2 4 hthis ) (ci := 3) hthis ⟨rfl, rfl, rfl, by decide, by decide⟩ rfl (by exact Nat.le_of_ble_eq_true rfl) (fun x6 => ?_)
          refine qb_aload_n hX 19 rfl rfl ?_
          refine qb_iload_n hX 20 rfl rfl ?_
          refine qb_iconst hX 21 3 rfl (by decide) ?_
          refine qb_callI hX 22 rfl cv_Press_155 (jm_Press_cell (qk_GI hX) this s2.2 3 hthis ) (ci := 3) hthis ⟨rfl, rfl, rfl, by decide, by decide⟩ rfl (by exact Nat.le_of_ble_eq_true rfl) (fun x7 => ?_)
          refine qb_isub hX 23 rfl ?_
          exact qb_exit (fun σ h => qj_goto hX 24 rfl (by decide) (qj_wk (ρ' := [some (.ref (qx_ad X this)), some (.int p1), none, some (.int s2.2)]) (qw_s (qw_s (qw_n (qw_s (qw_0))))) h))
      · intro s5
        refine qb_iadd hX 26 rfl ?_
        refine qb_istore_nL hX 27 (fun x8 => [some (.ref (qx_ad X this)), some (.int p1), some (.int x8), some (.int s2.2)]) rfl (by decide) (fun _ => rfl) (fun x8 => ?_)
        refine qb_iinc hX 28 1 (fun x9 => [some (.ref (qx_ad X this)), some (.int p1), some (.int x8), some (.int x9)]) rfl (by decide) (by decide) rfl (fun _ => rfl) (fun x9 => ?_)
        exact qb_exit (fun σ h => qj_goto hX 29 rfl (by decide) (qj_wk (ρ' := [some (.ref (qx_ad X this)), some (.int p1), some (.int x8), some (.int x9)]) (qw_s (qw_s (qw_s (qw_s (qw_0))))) h))
  · intro s1
    refine qb_iload_n hX 30 rfl rfl ?_
    exact qb_iret hX 31 rfl hR (fun _ h => h)
theorem jm_Press_piecesOn {l : Launch} {G : qm_G} (hG : qm_GI G) (this : Nat) (p1 : Int32) (hthis : (qm_kd this).1 = 13) : qm_MI l G jy_Press_piecesOn prog_5_method_22_code 4 (some .int) 2 43 [.ref (G.1 this), .int p1] (jf_Press_piecesOn this p1) :=
  qm_metI (by decide +kernel) jd_Press_piecesOn (fun v hv => by simp only [List.mem_cons, List.not_mem_nil, or_false] at hv; rcases hv with rfl | rfl <;> rfl) (by exact Nat.le_of_ble_eq_true rfl) hG rfl (fun X hl hg hX r0 σ0 hR => by subst hl; subst hg; exact jb_Press_piecesOn hX hR this p1 hthis)
def jl_Press_spansOn : List qm_I := [(0, .iconst 0, 1, 1), (1, .istore_n 2, 1, 2), (2, .iconst 0, 1, 3), (3, .istore_n 3, 1, 4), (4, .iload_n 3, 1, 5), (5, .aload_n 0, 1, 6), (6, .getfield 79, 3, 9), (9, .if_icmp .ge 33, 3, 12), (12, .iload_n 3, 1, 13), (13, .bipush 16, 2, 15), (15, .if_icmp .ge 27, 3, 18), (18, .iload_n 2, 1, 19), (19, .aload_n 0, 1, 20), (20, .getfield 44, 3, 23), (23, .iload_n 3, 1, 24), (24, .iaload, 1, 25), (25, .iload_n 1, 1, 26), (26, .if_icmp .ne 7, 3, 29), (29, .iconst 1, 1, 30), (30, .goto 4, 3, 33), (33, .iconst 0, 1, 34), (34, .iadd, 1, 35), (35, .istore_n 2, 1, 36), (36, .iinc 3 1, 3, 39), (39, .goto (-35), 3, 42), (42, .iload_n 2, 1, 43), (43, .ireturn, 1, 44)]
theorem jd_Press_spansOn : qm_D prog_5_method_23_code jl_Press_spansOn := qm_D_of (by decide +kernel)
noncomputable def jf_Press_spansOn (this : Nat) (p1 : Int32) : qm_M Int32 :=
  mB (α := Int32) (
    mW (S := Int32 × Int32) (α := Int32) (fun s2 =>
      mB (mGt this 10) fun x3 =>
      if x3 ≤ s2.2 then
        mP (Sum.inr s2.1)
      else
        if 16 ≤ s2.2 then
          mP (Sum.inr s2.1)
        else
          mB (mLd (qm_rf this 11) s2.2) fun x4 =>
          mB (α := Int32) (
            if ¬ x4 = p1 then
              mP 0
            else
              mP 1) fun s5 =>
          mB (mP (s2.1 + s5)) fun x6 =>
          mB (mP (s2.2 + 1)) fun x7 =>
          mP (Sum.inl (x6, x7))) (0, 0)) fun s1 =>
  mP s1
set_option maxRecDepth 20000 in
set_option maxHeartbeats 4000000 in
theorem jb_Press_spansOn {X : qm_X} (hX : qm_ok X qr_Press prog_5_method_23_code 4 0 0 jl_Press_spansOn) {r0 : Int32} {σ0 : qm_Mem} (hR : qm_RI X r0 σ0 .int) (this : Nat) (p1 : Int32) (hthis : (qm_kd this).1 = 13) : qm_B X (jf_Press_spansOn this p1) 0 [some (.ref (qx_ad X this)), some (.int p1), none, none] [] (fun r σ1 => r = r0 ∧ σ1 = σ0) := by
  unfold jf_Press_spansOn
  refine qb_iconst hX 0 0 rfl (by decide) ?_
  refine qb_istore_n hX 1 ([some (.ref (qx_ad X this)), some (.int p1), some (.int 0), none]) rfl (by decide) rfl ?_
  refine qb_iconst hX 2 0 rfl (by decide) ?_
  refine qb_istore_n hX 3 ([some (.ref (qx_ad X this)), some (.int p1), some (.int 0), some (.int 0)]) rfl (by decide) rfl ?_
  refine qb_join 42 (fun s1 => [none, none, some (.int s1), none]) (fun s1 => []) ?_ ?_
  ·
    refine qb_loopw ((0, 0)) (fun s2 => [some (.ref (qx_ad X this)), some (.int p1), some (.int s2.1), some (.int s2.2)]) (qw_s (qw_s (qw_s (qw_s (qw_0))))) (fun s2 => ?_)
    refine qb_iload_n hX 4 rfl rfl ?_
    refine qb_aload_n hX 5 rfl rfl ?_
    refine qb_get hX 6 rfl fl_Press_79 hthis rfl (fun x3 => ?_)
    refine qb_icge hX 7 42 rfl (by decide) ?_ ?_
    ·
      exact qb_exit (fun σ h => qj_wk (ρ' := [none, none, some (.int s2.1), none]) (qw_n (qw_n (qw_s (qw_n (qw_0))))) h)
    ·
      refine qb_iload_n hX 8 rfl rfl ?_
      refine qb_bipush hX 9 16 rfl (by decide) ?_
      refine qb_icge hX 10 42 rfl (by decide) ?_ ?_
      ·
        exact qb_exit (fun σ h => qj_wk (ρ' := [none, none, some (.int s2.1), none]) (qw_n (qw_n (qw_s (qw_n (qw_0))))) h)
      ·
        refine qb_iload_n hX 11 rfl rfl ?_
        refine qb_aload_n hX 12 rfl rfl ?_
        refine qb_getR hX 13 rfl fl_Press_44 hthis rfl ?_
        refine qb_iload_n hX 14 rfl rfl ?_
        refine qb_iald hX 15 rfl (kf_Press_11 hthis) (fun x4 => ?_)
        refine qb_iload_n hX 16 rfl rfl ?_
        refine qb_join 34 (fun s5 => [some (.ref (qx_ad X this)), some (.int p1), none, some (.int s2.2)]) (fun s5 => [.int s5, .int s2.1]) ?_ ?_
        ·
          refine qb_icne hX 17 33 rfl (by decide) ?_ ?_
          ·
            refine qb_iconst hX 20 0 rfl (by decide) ?_
            exact qb_exit (fun σ h => qj_wk (ρ' := [some (.ref (qx_ad X this)), some (.int p1), none, some (.int s2.2)]) (qw_s (qw_s (qw_n (qw_s (qw_0))))) h)
          ·
            refine qb_iconst hX 18 1 rfl (by decide) ?_
            exact qb_exit (fun σ h => qj_goto hX 19 rfl (by decide) (qj_wk (ρ' := [some (.ref (qx_ad X this)), some (.int p1), none, some (.int s2.2)]) (qw_s (qw_s (qw_n (qw_s (qw_0))))) h))
        · intro s5
          refine qb_iadd hX 21 rfl ?_
          refine qb_istore_nL hX 22 (fun x6 => [some (.ref (qx_ad X this)), some (.int p1), some (.int x6), some (.int s2.2)]) rfl (by decide) (fun _ => rfl) (fun x6 => ?_)
          refine qb_iinc hX 23 1 (fun x7 => [some (.ref (qx_ad X this)), some (.int p1), some (.int x6), some (.int x7)]) rfl (by decide) (by decide) rfl (fun _ => rfl) (fun x7 => ?_)
          exact qb_exit (fun σ h => qj_goto hX 24 rfl (by decide) (qj_wk (ρ' := [some (.ref (qx_ad X this)), some (.int p1), some (.int x6), some (.int x7)]) (qw_s (qw_s (qw_s (qw_s (qw_0))))) h))
  · intro s1
    refine qb_iload_n hX 25 rfl rfl ?_
    exact qb_iret hX 26 rfl hR (fun _ h => h)
theorem jm_Press_spansOn {l : Launch} {G : qm_G} (hG : qm_GI G) (this : Nat) (p1 : Int32) (hthis : (qm_kd this).1 = 13) : qm_MI l G jy_Press_spansOn prog_5_method_23_code 4 (some .int) 0 0 [.ref (G.1 this), .int p1] (jf_Press_spansOn this p1) :=
  qm_metI (by decide +kernel) jd_Press_spansOn (fun v hv => by simp only [List.mem_cons, List.not_mem_nil, or_false] at hv; rcases hv with rfl | rfl <;> rfl) (by exact Nat.le_of_ble_eq_true rfl) hG rfl (fun X hl hg hX r0 σ0 hR => by subst hl; subst hg; exact jb_Press_spansOn hX hR this p1 hthis)
def jl_Press_noteLinesOn : List qm_I := [(0, .iconst 0, 1, 1), (1, .istore_n 2, 1, 2), (2, .iconst 0, 1, 3), (3, .istore_n 3, 1, 4), (4, .iload_n 3, 1, 5), (5, .aload_n 0, 1, 6), (6, .getfield 64, 3, 9), (9, .if_icmp .ge 33, 3, 12), (12, .iload_n 2, 1, 13), (13, .aload_n 0, 1, 14), (14, .iload_n 3, 1, 15), (15, .iconst 0, 1, 16), (16, .invokevirtual 155, 3, 19), (19, .iload_n 1, 1, 20), (20, .if_icmp .ne 13, 3, 23), (23, .aload_n 0, 1, 24), (24, .iload_n 3, 1, 25), (25, .bipush 8, 2, 27), (27, .invokevirtual 155, 3, 30), (30, .goto 4, 3, 33), (33, .iconst 0, 1, 34), (34, .iadd, 1, 35), (35, .istore_n 2, 1, 36), (36, .iinc 3 1, 3, 39), (39, .goto (-35), 3, 42), (42, .iload_n 2, 1, 43), (43, .ireturn, 1, 44)]
theorem jd_Press_noteLinesOn : qm_D prog_5_method_24_code jl_Press_noteLinesOn := qm_D_of (by decide +kernel)
noncomputable def jf_Press_noteLinesOn (this : Nat) (p1 : Int32) : qm_M Int32 :=
  mB (α := Int32) (
    mW (S := Int32 × Int32) (α := Int32) (fun s2 =>
      mB (mGt this 4) fun x3 =>
      if x3 ≤ s2.2 then
        mP (Sum.inr s2.1)
      else
        mB (jf_Press_cell this s2.2 0) fun x4 =>
        mB (α := Int32) (
          if ¬ x4 = p1 then
            mP 0
          else
            mB (jf_Press_cell this s2.2 8) fun x6 =>
            mP x6) fun s5 =>
        mB (mP (s2.1 + s5)) fun x7 =>
        mB (mP (s2.2 + 1)) fun x8 =>
        mP (Sum.inl (x7, x8))) (0, 0)) fun s1 =>
  mP s1
set_option maxRecDepth 20000 in
set_option maxHeartbeats 4000000 in
theorem jb_Press_noteLinesOn {X : qm_X} (hX : qm_ok X qr_Press prog_5_method_24_code 4 2 43 jl_Press_noteLinesOn) {r0 : Int32} {σ0 : qm_Mem} (hR : qm_RI X r0 σ0 .int) (this : Nat) (p1 : Int32) (hthis : (qm_kd this).1 = 13) : qm_B X (jf_Press_noteLinesOn this p1) 0 [some (.ref (qx_ad X this)), some (.int p1), none, none] [] (fun r σ1 => r = r0 ∧ σ1 = σ0) := by
  unfold jf_Press_noteLinesOn
  refine qb_iconst hX 0 0 rfl (by decide) ?_
  refine qb_istore_n hX 1 ([some (.ref (qx_ad X this)), some (.int p1), some (.int 0), none]) rfl (by decide) rfl ?_
  refine qb_iconst hX 2 0 rfl (by decide) ?_
  refine qb_istore_n hX 3 ([some (.ref (qx_ad X this)), some (.int p1), some (.int 0), some (.int 0)]) rfl (by decide) rfl ?_
  refine qb_join 42 (fun s1 => [none, none, some (.int s1), none]) (fun s1 => []) ?_ ?_
  ·
    refine qb_loopw ((0, 0)) (fun s2 => [some (.ref (qx_ad X this)), some (.int p1), some (.int s2.1), some (.int s2.2)]) (qw_s (qw_s (qw_s (qw_s (qw_0))))) (fun s2 => ?_)
    refine qb_iload_n hX 4 rfl rfl ?_
    refine qb_aload_n hX 5 rfl rfl ?_
    refine qb_get hX 6 rfl fl_Press_64 hthis rfl (fun x3 => ?_)
    refine qb_icge hX 7 42 rfl (by decide) ?_ ?_
    ·
      exact qb_exit (fun σ h => qj_wk (ρ' := [none, none, some (.int s2.1), none]) (qw_n (qw_n (qw_s (qw_n (qw_0))))) h)
    ·
      refine qb_iload_n hX 8 rfl rfl ?_
      refine qb_aload_n hX 9 rfl rfl ?_
      refine qb_iload_n hX 10 rfl rfl ?_
      refine qb_iconst hX 11 0 rfl (by decide) ?_
      refine qb_callI hX 12 rfl cv_Press_155 (jm_Press_cell (qk_GI hX) this s2.2 0 hthis ) (ci := 3) hthis ⟨rfl, rfl, rfl, by decide, by decide⟩ rfl (by exact Nat.le_of_ble_eq_true rfl) (fun x4 => ?_)
      refine qb_iload_n hX 13 rfl rfl ?_
      refine qb_join 34 (fun s5 => [some (.ref (qx_ad X this)), some (.int p1), none, some (.int s2.2)]) (fun s5 => [.int s5, .int s2.1]) ?_ ?_
      ·
        refine qb_icne hX 14 33 rfl (by decide) ?_ ?_
        ·
          refine qb_iconst hX 20 0 rfl (by decide) ?_
          exact qb_exit (fun σ h => qj_wk (ρ' := [some (.ref (qx_ad X this)), some (.int p1), none, some (.int s2.2)]) (qw_s (qw_s (qw_n (qw_s (qw_0))))) h)
        ·
          refine qb_aload_n hX 15 rfl rfl ?_
          refine qb_iload_n hX 16 rfl rfl ?_
          refine qb_bipush hX 17 8 rfl (by decide) ?_
          refine qb_callI hX 18 rfl cv_Press_155 (jm_Press_cell (qk_GI hX) this s2.2 8 hthis ) (ci := 3) hthis ⟨rfl, rfl, rfl, by decide, by decide⟩ rfl (by exact Nat.le_of_ble_eq_true rfl) (fun x6 => ?_)
          exact qb_exit (fun σ h => qj_goto hX 19 rfl (by decide) (qj_wk (ρ' := [some (.ref (qx_ad X this)), some (.int p1), none, some (.int s2.2)]) (qw_s (qw_s (qw_n (qw_s (qw_0))))) h))
      · intro s5
        refine qb_iadd hX 21 rfl ?_
        refine qb_istore_nL hX 22 (fun x7 => [some (.ref (qx_ad X this)), some (.int p1), some (.int x7), some (.int s2.2)]) rfl (by decide) (fun _ => rfl) (fun x7 => ?_)
        refine qb_iinc hX 23 1 (fun x8 => [some (.ref (qx_ad X this)), some (.int p1), some (.int x7), some (.int x8)]) rfl (by decide) (by decide) rfl (fun _ => rfl) (fun x8 => ?_)
        exact qb_exit (fun σ h => qj_goto hX 24 rfl (by decide) (qj_wk (ρ' := [some (.ref (qx_ad X this)), some (.int p1), some (.int x7), some (.int x8)]) (qw_s (qw_s (qw_s (qw_s (qw_0))))) h))
  · intro s1
    refine qb_iload_n hX 25 rfl rfl ?_
    exact qb_iret hX 26 rfl hR (fun _ h => h)
theorem jm_Press_noteLinesOn {l : Launch} {G : qm_G} (hG : qm_GI G) (this : Nat) (p1 : Int32) (hthis : (qm_kd this).1 = 13) : qm_MI l G jy_Press_noteLinesOn prog_5_method_24_code 4 (some .int) 2 43 [.ref (G.1 this), .int p1] (jf_Press_noteLinesOn this p1) :=
  qm_metI (by decide +kernel) jd_Press_noteLinesOn (fun v hv => by simp only [List.mem_cons, List.not_mem_nil, or_false] at hv; rcases hv with rfl | rfl <;> rfl) (by exact Nat.le_of_ble_eq_true rfl) hG rfl (fun X hl hg hX r0 σ0 hR => by subst hl; subst hg; exact jb_Press_noteLinesOn hX hR this p1 hthis)
def jl_Press_sectionsOn : List qm_I := [(0, .iconst 0, 1, 1), (1, .istore_n 2, 1, 2), (2, .iconst 0, 1, 3), (3, .istore_n 3, 1, 4), (4, .iload_n 3, 1, 5), (5, .aload_n 0, 1, 6), (6, .getfield 64, 3, 9), (9, .if_icmp .ge 36, 3, 12), (12, .iload_n 2, 1, 13), (13, .aload_n 0, 1, 14), (14, .iload_n 3, 1, 15), (15, .iconst 0, 1, 16), (16, .invokevirtual 155, 3, 19), (19, .iload_n 1, 1, 20), (20, .if_icmp .ne 16, 3, 23), (23, .aload_n 0, 1, 24), (24, .iload_n 3, 1, 25), (25, .iconst 1, 1, 26), (26, .invokevirtual 155, 3, 29), (29, .ifCond .ne 7, 3, 32), (32, .iconst 1, 1, 33), (33, .goto 4, 3, 36), (36, .iconst 0, 1, 37), (37, .iadd, 1, 38), (38, .istore_n 2, 1, 39), (39, .iinc 3 1, 3, 42), (42, .goto (-38), 3, 45), (45, .iload_n 2, 1, 46), (46, .ireturn, 1, 47)]
theorem jd_Press_sectionsOn : qm_D prog_5_method_25_code jl_Press_sectionsOn := qm_D_of (by decide +kernel)
noncomputable def jf_Press_sectionsOn (this : Nat) (p1 : Int32) : qm_M Int32 :=
  mB (α := Int32) (
    mW (S := Int32 × Int32) (α := Int32) (fun s2 =>
      mB (mGt this 4) fun x3 =>
      if x3 ≤ s2.2 then
        mP (Sum.inr s2.1)
      else
        mB (jf_Press_cell this s2.2 0) fun x4 =>
        mB (α := Int32) (
          mB (α := (Unit ⊕ Int32)) (
            if ¬ x4 = p1 then
              mP (Sum.inl ())
            else
              mB (jf_Press_cell this s2.2 1) fun x7 =>
              if ¬ x7 = 0 then
                mP (Sum.inl ())
              else
                mP (Sum.inr 1)) (Sum.elim (fun s6 =>
            mP 0) mP)) fun s5 =>
        mB (mP (s2.1 + s5)) fun x8 =>
        mB (mP (s2.2 + 1)) fun x9 =>
        mP (Sum.inl (x8, x9))) (0, 0)) fun s1 =>
  mP s1
set_option maxRecDepth 20000 in
set_option maxHeartbeats 4000000 in
theorem jb_Press_sectionsOn {X : qm_X} (hX : qm_ok X qr_Press prog_5_method_25_code 4 2 43 jl_Press_sectionsOn) {r0 : Int32} {σ0 : qm_Mem} (hR : qm_RI X r0 σ0 .int) (this : Nat) (p1 : Int32) (hthis : (qm_kd this).1 = 13) : qm_B X (jf_Press_sectionsOn this p1) 0 [some (.ref (qx_ad X this)), some (.int p1), none, none] [] (fun r σ1 => r = r0 ∧ σ1 = σ0) := by
  unfold jf_Press_sectionsOn
  refine qb_iconst hX 0 0 rfl (by decide) ?_
  refine qb_istore_n hX 1 ([some (.ref (qx_ad X this)), some (.int p1), some (.int 0), none]) rfl (by decide) rfl ?_
  refine qb_iconst hX 2 0 rfl (by decide) ?_
  refine qb_istore_n hX 3 ([some (.ref (qx_ad X this)), some (.int p1), some (.int 0), some (.int 0)]) rfl (by decide) rfl ?_
  refine qb_join 45 (fun s1 => [none, none, some (.int s1), none]) (fun s1 => []) ?_ ?_
  ·
    refine qb_loopw ((0, 0)) (fun s2 => [some (.ref (qx_ad X this)), some (.int p1), some (.int s2.1), some (.int s2.2)]) (qw_s (qw_s (qw_s (qw_s (qw_0))))) (fun s2 => ?_)
    refine qb_iload_n hX 4 rfl rfl ?_
    refine qb_aload_n hX 5 rfl rfl ?_
    refine qb_get hX 6 rfl fl_Press_64 hthis rfl (fun x3 => ?_)
    refine qb_icge hX 7 45 rfl (by decide) ?_ ?_
    ·
      exact qb_exit (fun σ h => qj_wk (ρ' := [none, none, some (.int s2.1), none]) (qw_n (qw_n (qw_s (qw_n (qw_0))))) h)
    ·
      refine qb_iload_n hX 8 rfl rfl ?_
      refine qb_aload_n hX 9 rfl rfl ?_
      refine qb_iload_n hX 10 rfl rfl ?_
      refine qb_iconst hX 11 0 rfl (by decide) ?_
      refine qb_callI hX 12 rfl cv_Press_155 (jm_Press_cell (qk_GI hX) this s2.2 0 hthis ) (ci := 3) hthis ⟨rfl, rfl, rfl, by decide, by decide⟩ rfl (by exact Nat.le_of_ble_eq_true rfl) (fun x4 => ?_)
      refine qb_iload_n hX 13 rfl rfl ?_
      refine qb_join 37 (fun s5 => [some (.ref (qx_ad X this)), some (.int p1), none, some (.int s2.2)]) (fun s5 => [.int s5, .int s2.1]) ?_ ?_
      ·
        refine qb_join2 36 (fun s6 => [some (.ref (qx_ad X this)), some (.int p1), none, some (.int s2.2)]) (fun s6 => [.int s2.1]) ?_ ?_
        ·
          refine qb_icne hX 14 36 rfl (by decide) ?_ ?_
          ·
            exact qb_exit (fun σ h => qj_wk (ρ' := [some (.ref (qx_ad X this)), some (.int p1), none, some (.int s2.2)]) (qw_s (qw_s (qw_n (qw_s (qw_0))))) h)
          ·
            refine qb_aload_n hX 15 rfl rfl ?_
            refine qb_iload_n hX 16 rfl rfl ?_
            refine qb_iconst hX 17 1 rfl (by decide) ?_
            refine qb_callI hX 18 rfl cv_Press_155 (jm_Press_cell (qk_GI hX) this s2.2 1 hthis ) (ci := 3) hthis ⟨rfl, rfl, rfl, by decide, by decide⟩ rfl (by exact Nat.le_of_ble_eq_true rfl) (fun x7 => ?_)
            refine qb_ifne hX 19 36 rfl (by decide) ?_ ?_
            ·
              exact qb_exit (fun σ h => qj_wk (ρ' := [some (.ref (qx_ad X this)), some (.int p1), none, some (.int s2.2)]) (qw_s (qw_s (qw_n (qw_s (qw_0))))) h)
            ·
              refine qb_iconst hX 20 1 rfl (by decide) ?_
              exact qb_exit (fun σ h => qj_goto hX 21 rfl (by decide) (qj_wk (ρ' := [some (.ref (qx_ad X this)), some (.int p1), none, some (.int s2.2)]) (qw_s (qw_s (qw_n (qw_s (qw_0))))) h))
        · intro s6
          refine qb_iconst hX 22 0 rfl (by decide) ?_
          exact qb_exit (fun σ h => qj_wk (ρ' := [some (.ref (qx_ad X this)), some (.int p1), none, some (.int s2.2)]) (qw_s (qw_s (qw_n (qw_s (qw_0))))) h)
      · intro s5
        refine qb_iadd hX 23 rfl ?_
        refine qb_istore_nL hX 24 (fun x8 => [some (.ref (qx_ad X this)), some (.int p1), some (.int x8), some (.int s2.2)]) rfl (by decide) (fun _ => rfl) (fun x8 => ?_)
        refine qb_iinc hX 25 1 (fun x9 => [some (.ref (qx_ad X this)), some (.int p1), some (.int x8), some (.int x9)]) rfl (by decide) (by decide) rfl (fun _ => rfl) (fun x9 => ?_)
        exact qb_exit (fun σ h => qj_goto hX 26 rfl (by decide) (qj_wk (ρ' := [some (.ref (qx_ad X this)), some (.int p1), some (.int x8), some (.int x9)]) (qw_s (qw_s (qw_s (qw_s (qw_0))))) h))
  · intro s1
    refine qb_iload_n hX 27 rfl rfl ?_
    exact qb_iret hX 28 rfl hR (fun _ h => h)
theorem jm_Press_sectionsOn {l : Launch} {G : qm_G} (hG : qm_GI G) (this : Nat) (p1 : Int32) (hthis : (qm_kd this).1 = 13) : qm_MI l G jy_Press_sectionsOn prog_5_method_25_code 4 (some .int) 2 43 [.ref (G.1 this), .int p1] (jf_Press_sectionsOn this p1) :=
  qm_metI (by decide +kernel) jd_Press_sectionsOn (fun v hv => by simp only [List.mem_cons, List.not_mem_nil, or_false] at hv; rcases hv with rfl | rfl <;> rfl) (by exact Nat.le_of_ble_eq_true rfl) hG rfl (fun X hl hg hX r0 σ0 hR => by subst hl; subst hg; exact jb_Press_sectionsOn hX hR this p1 hthis)
def jl_Run_takes : List qm_I := [(0, .iload_n 0, 1, 1), (1, .ifCond .lt 31, 3, 4), (4, .iload_n 0, 1, 5), (5, .bipush 8, 2, 7), (7, .if_icmp .ge 25, 3, 10), (10, .iload_n 1, 1, 11), (11, .getstatic 21, 3, 14), (14, .iload_n 0, 1, 15), (15, .iaload, 1, 16), (16, .if_icmp .lt 16, 3, 19), (19, .iload_n 1, 1, 20), (20, .getstatic 24, 3, 23), (23, .iload_n 0, 1, 24), (24, .iaload, 1, 25), (25, .if_icmp .gt 7, 3, 28), (28, .iconst 1, 1, 29), (29, .goto 4, 3, 32), (32, .iconst 0, 1, 33), (33, .ireturn, 1, 34)]
theorem jd_Run_takes : qm_D prog_6_method_2_code jl_Run_takes := qm_D_of (by decide +kernel)
noncomputable def jf_Run_takes (p1 : Int32) (p2 : Int32) : qm_M Int32 :=
  if p1 < 0 then
    mP 0
  else
    if 8 ≤ p1 then
      mP 0
    else
      mB (mLd 406 p1) fun x1 =>
      if p2 < x1 then
        mP 0
      else
        mB (mLd 407 p1) fun x2 =>
        if x2 < p2 then
          mP 0
        else
          mP 1
set_option maxRecDepth 20000 in
set_option maxHeartbeats 4000000 in
theorem jb_Run_takes {X : qm_X} (hX : qm_ok X qr_Run prog_6_method_2_code 2 0 0 jl_Run_takes) {r0 : Int32} {σ0 : qm_Mem} (hR : qm_RI X r0 σ0 .boolean) (p1 : Int32) (p2 : Int32)  : qm_B X (jf_Run_takes p1 p2) 0 [some (.int p1), some (.int p2)] [] (fun r σ1 => r = r0 ∧ σ1 = σ0) := by
  unfold jf_Run_takes
  refine qb_iload_n hX 0 rfl rfl ?_
  refine qb_iflt hX 1 32 rfl (by decide) ?_ ?_
  ·
    refine qb_iconst hX 17 0 rfl (by decide) ?_
    exact qb_zret1 hX 18 rfl hR (by decide) (fun _ h => h)
  ·
    refine qb_iload_n hX 2 rfl rfl ?_
    refine qb_bipush hX 3 8 rfl (by decide) ?_
    refine qb_icge hX 4 32 rfl (by decide) ?_ ?_
    ·
      refine qb_iconst hX 17 0 rfl (by decide) ?_
      exact qb_zret1 hX 18 rfl hR (by decide) (fun _ h => h)
    ·
      refine qb_iload_n hX 5 rfl rfl ?_
      refine qb_getsN hX 6 (n := "SETTING_LEAST") 406 rfl (by decide +kernel) (by decide +kernel) ?_
      refine qb_iload_n hX 7 rfl rfl ?_
      refine qb_iald hX 8 rfl (rfl : (qm_kd 406).1 = 1) (fun x1 => ?_)
      refine qb_iclt hX 9 32 rfl (by decide) ?_ ?_
      ·
        refine qb_iconst hX 17 0 rfl (by decide) ?_
        exact qb_zret1 hX 18 rfl hR (by decide) (fun _ h => h)
      ·
        refine qb_iload_n hX 10 rfl rfl ?_
        refine qb_getsN hX 11 (n := "SETTING_MOST") 407 rfl (by decide +kernel) (by decide +kernel) ?_
        refine qb_iload_n hX 12 rfl rfl ?_
        refine qb_iald hX 13 rfl (rfl : (qm_kd 407).1 = 1) (fun x2 => ?_)
        refine qb_icgt hX 14 32 rfl (by decide) ?_ ?_
        ·
          refine qb_iconst hX 17 0 rfl (by decide) ?_
          exact qb_zret1 hX 18 rfl hR (by decide) (fun _ h => h)
        ·
          refine qb_iconst hX 15 1 rfl (by decide) ?_
          refine qb_goto hX 16 (tgt := 33) rfl (by decide) ?_
          exact qb_zret1 hX 18 rfl hR (by decide) (fun _ h => h)
theorem jm_Run_takes {l : Launch} {G : qm_G} (hG : qm_GI G) (p1 : Int32) (p2 : Int32)  : qm_MI l G jy_Run_takes prog_6_method_2_code 2 (some .boolean) 0 0 [.int p1, .int p2] (jf_Run_takes p1 p2) :=
  qm_metI (by decide +kernel) jd_Run_takes (fun v hv => by simp only [List.mem_cons, List.not_mem_nil, or_false] at hv; rcases hv with rfl | rfl <;> rfl) (by exact Nat.le_of_ble_eq_true rfl) hG rfl (fun X hl hg hX r0 σ0 hR => by subst hl; subst hg; exact jb_Run_takes hX hR p1 p2 )
def jl_Run_clear : List qm_I := [(0, .aload_n 0, 1, 1), (1, .iconst 0, 1, 2), (2, .putfield 27, 3, 5), (5, .iconst 0, 1, 6), (6, .istore_n 1, 1, 7), (7, .iload_n 1, 1, 8), (8, .bipush 8, 2, 10), (10, .if_icmp .ge 20, 3, 13), (13, .aload_n 0, 1, 14), (14, .getfield 11, 3, 17), (17, .iload_n 1, 1, 18), (18, .getstatic 31, 3, 21), (21, .iload_n 1, 1, 22), (22, .iaload, 1, 23), (23, .iastore, 1, 24), (24, .iinc 1 1, 3, 27), (27, .goto (-20), 3, 30), (30, .return_, 1, 31)]
theorem jd_Run_clear : qm_D prog_6_method_3_code jl_Run_clear := qm_D_of (by decide +kernel)
noncomputable def jf_Run_clear (this : Nat) : qm_M Unit :=
  mB (mPt this 0 0) fun _ =>
  mB (α := Unit) (
    mW (S := Int32) (α := Unit) (fun s2 =>
      if 8 ≤ s2 then
        mP (Sum.inr ())
      else
        mB (mLd 405 s2) fun x3 =>
        mB (mSt (qm_rf this 1) s2 x3) fun _ =>
        mB (mP (s2 + 1)) fun x4 =>
        mP (Sum.inl x4)) 0) fun s1 =>
  mP ()
set_option maxRecDepth 20000 in
set_option maxHeartbeats 4000000 in
theorem jb_Run_clear {X : qm_X} (hX : qm_ok X qr_Run prog_6_method_3_code 2 0 0 jl_Run_clear) {σ0 : qm_Mem} (hR : qm_RV X σ0) (this : Nat) (hthis : (qm_kd this).1 = 14) : qm_B X (jf_Run_clear this) 0 [some (.ref (qx_ad X this)), none] [] (fun _ σ1 => σ1 = σ0) := by
  unfold jf_Run_clear
  refine qb_aload_n hX 0 rfl rfl ?_
  refine qb_iconst hX 1 0 rfl (by decide) ?_
  refine qb_put hX 2 rfl fp_Run_27 hthis ?_
  refine qb_iconst hX 3 0 rfl (by decide) ?_
  refine qb_istore_n hX 4 ([some (.ref (qx_ad X this)), some (.int 0)]) rfl (by decide) rfl ?_
  refine qb_join 30 (fun s1 => [none, none]) (fun s1 => []) ?_ ?_
  ·
    refine qb_loopw (0) (fun s2 => [some (.ref (qx_ad X this)), some (.int s2)]) (qw_s (qw_s (qw_0))) (fun s2 => ?_)
    refine qb_iload_n hX 5 rfl rfl ?_
    refine qb_bipush hX 6 8 rfl (by decide) ?_
    refine qb_icge hX 7 30 rfl (by decide) ?_ ?_
    ·
      exact qb_exit (fun σ h => qj_wk (ρ' := [none, none]) (qw_n (qw_n (qw_0))) h)
    ·
      refine qb_aload_n hX 8 rfl rfl ?_
      refine qb_getR hX 9 rfl fl_Run_11 hthis rfl ?_
      refine qb_iload_n hX 10 rfl rfl ?_
      refine qb_getsN hX 11 (n := "SETTING_FIRST") 405 rfl (by decide +kernel) (by decide +kernel) ?_
      refine qb_iload_n hX 12 rfl rfl ?_
      refine qb_iald hX 13 rfl (rfl : (qm_kd 405).1 = 1) (fun x3 => ?_)
      refine qb_iast hX 14 rfl (kf_Run_1 hthis) ?_
      refine qb_iinc hX 15 1 (fun x4 => [some (.ref (qx_ad X this)), some (.int x4)]) rfl (by decide) (by decide) rfl (fun _ => rfl) (fun x4 => ?_)
      exact qb_exit (fun σ h => qj_goto hX 16 rfl (by decide) (qj_wk (ρ' := [some (.ref (qx_ad X this)), some (.int x4)]) (qw_s (qw_s (qw_0))) h))
  · intro s1
    exact qb_vret hX 17 rfl hR (fun _ h => h)
theorem jm_Run_clear {l : Launch} {G : qm_G} (hG : qm_GI G) (this : Nat) (hthis : (qm_kd this).1 = 14) : qm_MV l G jy_Run_clear prog_6_method_3_code 2 0 0 [.ref (G.1 this)] (jf_Run_clear this) :=
  qm_metV (by decide +kernel) jd_Run_clear (fun v hv => by simp only [List.mem_cons, List.not_mem_nil, or_false] at hv; rcases hv with rfl <;> rfl) (by exact Nat.le_of_ble_eq_true rfl) hG (fun X hl hg hX σ0 hR => by subst hl; subst hg; exact jb_Run_clear hX hR this hthis)
def jl_Run_put : List qm_I := [(0, .iload_n 1, 1, 1), (1, .iload_n 2, 1, 2), (2, .invokestatic 34, 3, 5), (5, .ifCond .eq 10, 3, 8), (8, .aload_n 0, 1, 9), (9, .getfield 11, 3, 12), (12, .iload_n 1, 1, 13), (13, .iload_n 2, 1, 14), (14, .iastore, 1, 15), (15, .return_, 1, 16)]
theorem jd_Run_put : qm_D prog_6_method_6_code jl_Run_put := qm_D_of (by decide +kernel)
noncomputable def jf_Run_put (this : Nat) (p1 : Int32) (p2 : Int32) : qm_M Unit :=
  mB (jf_Run_takes p1 p2) fun x1 =>
  if x1 = 0 then
    mP ()
  else
    mB (mSt (qm_rf this 1) p1 p2) fun _ =>
    mP ()
set_option maxRecDepth 20000 in
set_option maxHeartbeats 4000000 in
theorem jb_Run_put {X : qm_X} (hX : qm_ok X qr_Run prog_6_method_6_code 3 1 21 jl_Run_put) {σ0 : qm_Mem} (hR : qm_RV X σ0) (this : Nat) (p1 : Int32) (p2 : Int32) (hthis : (qm_kd this).1 = 14) : qm_B X (jf_Run_put this p1 p2) 0 [some (.ref (qx_ad X this)), some (.int p1), some (.int p2)] [] (fun _ σ1 => σ1 = σ0) := by
  unfold jf_Run_put
  refine qb_iload_n hX 0 rfl rfl ?_
  refine qb_iload_n hX 1 rfl rfl ?_
  refine qb_calSI hX 2 rfl cv_Run_34 (jm_Run_takes (qk_GI hX) p1 p2 ) ⟨rfl, by decide, by decide⟩ rfl (by exact Nat.le_of_ble_eq_true rfl) (fun x1 => ?_)
  refine qb_ifeq hX 3 15 rfl (by decide) ?_ ?_
  ·
    exact qb_vret hX 9 rfl hR (fun _ h => h)
  ·
    refine qb_aload_n hX 4 rfl rfl ?_
    refine qb_getR hX 5 rfl fl_Run_11 hthis rfl ?_
    refine qb_iload_n hX 6 rfl rfl ?_
    refine qb_iload_n hX 7 rfl rfl ?_
    refine qb_iast hX 8 rfl (kf_Run_1 hthis) ?_
    exact qb_vret hX 9 rfl hR (fun _ h => h)
theorem jm_Run_put {l : Launch} {G : qm_G} (hG : qm_GI G) (this : Nat) (p1 : Int32) (p2 : Int32) (hthis : (qm_kd this).1 = 14) : qm_MV l G jy_Run_put prog_6_method_6_code 3 1 21 [.ref (G.1 this), .int p1, .int p2] (jf_Run_put this p1 p2) :=
  qm_metV (by decide +kernel) jd_Run_put (fun v hv => by simp only [List.mem_cons, List.not_mem_nil, or_false] at hv; rcases hv with rfl | rfl | rfl <;> rfl) (by exact Nat.le_of_ble_eq_true rfl) hG (fun X hl hg hX σ0 hR => by subst hl; subst hg; exact jb_Run_put hX hR this p1 p2 hthis)
def jl_Run_has : List qm_I := [(0, .iload_n 1, 1, 1), (1, .ifCond .lt 15, 3, 4), (4, .iload_n 1, 1, 5), (5, .aload_n 0, 1, 6), (6, .getfield 27, 3, 9), (9, .if_icmp .ge 7, 3, 12), (12, .iconst 1, 1, 13), (13, .goto 4, 3, 16), (16, .iconst 0, 1, 17), (17, .ireturn, 1, 18)]
theorem jd_Run_has : qm_D prog_6_method_7_code jl_Run_has := qm_D_of (by decide +kernel)
noncomputable def jf_Run_has (this : Nat) (p1 : Int32) : qm_M Int32 :=
  if p1 < 0 then
    mP 0
  else
    mB (mGt this 0) fun x1 =>
    if x1 ≤ p1 then
      mP 0
    else
      mP 1
set_option maxRecDepth 20000 in
set_option maxHeartbeats 4000000 in
theorem jb_Run_has {X : qm_X} (hX : qm_ok X qr_Run prog_6_method_7_code 2 0 0 jl_Run_has) {r0 : Int32} {σ0 : qm_Mem} (hR : qm_RI X r0 σ0 .boolean) (this : Nat) (p1 : Int32) (hthis : (qm_kd this).1 = 14) : qm_B X (jf_Run_has this p1) 0 [some (.ref (qx_ad X this)), some (.int p1)] [] (fun r σ1 => r = r0 ∧ σ1 = σ0) := by
  unfold jf_Run_has
  refine qb_iload_n hX 0 rfl rfl ?_
  refine qb_iflt hX 1 16 rfl (by decide) ?_ ?_
  ·
    refine qb_iconst hX 8 0 rfl (by decide) ?_
    exact qb_zret1 hX 9 rfl hR (by decide) (fun _ h => h)
  ·
    refine qb_iload_n hX 2 rfl rfl ?_
    refine qb_aload_n hX 3 rfl rfl ?_
    refine qb_get hX 4 rfl fl_Run_27 hthis rfl (fun x1 => ?_)
    refine qb_icge hX 5 16 rfl (by decide) ?_ ?_
    ·
      refine qb_iconst hX 8 0 rfl (by decide) ?_
      exact qb_zret1 hX 9 rfl hR (by decide) (fun _ h => h)
    ·
      refine qb_iconst hX 6 1 rfl (by decide) ?_
      refine qb_goto hX 7 (tgt := 17) rfl (by decide) ?_
      exact qb_zret1 hX 9 rfl hR (by decide) (fun _ h => h)
theorem jm_Run_has {l : Launch} {G : qm_G} (hG : qm_GI G) (this : Nat) (p1 : Int32) (hthis : (qm_kd this).1 = 14) : qm_MI l G jy_Run_has prog_6_method_7_code 2 (some .boolean) 0 0 [.ref (G.1 this), .int p1] (jf_Run_has this p1) :=
  qm_metI (by decide +kernel) jd_Run_has (fun v hv => by simp only [List.mem_cons, List.not_mem_nil, or_false] at hv; rcases hv with rfl | rfl <;> rfl) (by exact Nat.le_of_ble_eq_true rfl) hG rfl (fun X hl hg hX r0 σ0 hR => by subst hl; subst hg; exact jb_Run_has hX hR this p1 hthis)
def jl_Run_hasPieces : List qm_I := [(0, .aload_n 0, 1, 1), (1, .iload_n 1, 1, 2), (2, .invokevirtual 38, 3, 5), (5, .ifCond .eq 17, 3, 8), (8, .aload_n 0, 1, 9), (9, .iload_n 1, 1, 10), (10, .iconst 0, 1, 11), (11, .invokevirtual 42, 3, 14), (14, .iconst 4, 1, 15), (15, .if_icmp .eq 7, 3, 18), (18, .iconst 1, 1, 19), (19, .goto 4, 3, 22), (22, .iconst 0, 1, 23), (23, .ireturn, 1, 24)]
theorem jd_Run_hasPieces : qm_D prog_6_method_8_code jl_Run_hasPieces := qm_D_of (by decide +kernel)
noncomputable def jf_Run_hasPieces (this : Nat) (p1 : Int32) : qm_M Int32 :=
  mB (jf_Run_has this p1) fun x1 =>
  if x1 = 0 then
    mP 0
  else
    mB (jf_Run_cell this p1 0) fun x2 =>
    if x2 = 4 then
      mP 0
    else
      mP 1
set_option maxRecDepth 20000 in
set_option maxHeartbeats 4000000 in
theorem jb_Run_hasPieces {X : qm_X} (hX : qm_ok X qr_Run prog_6_method_8_code 2 1 22 jl_Run_hasPieces) {r0 : Int32} {σ0 : qm_Mem} (hR : qm_RI X r0 σ0 .boolean) (this : Nat) (p1 : Int32) (hthis : (qm_kd this).1 = 14) : qm_B X (jf_Run_hasPieces this p1) 0 [some (.ref (qx_ad X this)), some (.int p1)] [] (fun r σ1 => r = r0 ∧ σ1 = σ0) := by
  unfold jf_Run_hasPieces
  refine qb_aload_n hX 0 rfl rfl ?_
  refine qb_iload_n hX 1 rfl rfl ?_
  refine qb_callI hX 2 rfl cv_Run_38 (jm_Run_has (qk_GI hX) this p1 hthis ) (ci := 4) hthis ⟨rfl, rfl, rfl, by decide, by decide⟩ rfl (by exact Nat.le_of_ble_eq_true rfl) (fun x1 => ?_)
  refine qb_ifeq hX 3 22 rfl (by decide) ?_ ?_
  ·
    refine qb_iconst hX 12 0 rfl (by decide) ?_
    exact qb_zret1 hX 13 rfl hR (by decide) (fun _ h => h)
  ·
    refine qb_aload_n hX 4 rfl rfl ?_
    refine qb_iload_n hX 5 rfl rfl ?_
    refine qb_iconst hX 6 0 rfl (by decide) ?_
    refine qb_callI hX 7 rfl cv_Run_42 (jm_Run_cell (qk_GI hX) this p1 0 hthis ) (ci := 4) hthis ⟨rfl, rfl, rfl, by decide, by decide⟩ rfl (by exact Nat.le_of_ble_eq_true rfl) (fun x2 => ?_)
    refine qb_iconst hX 8 4 rfl (by decide) ?_
    refine qb_iceq hX 9 22 rfl (by decide) ?_ ?_
    ·
      refine qb_iconst hX 12 0 rfl (by decide) ?_
      exact qb_zret1 hX 13 rfl hR (by decide) (fun _ h => h)
    ·
      refine qb_iconst hX 10 1 rfl (by decide) ?_
      refine qb_goto hX 11 (tgt := 23) rfl (by decide) ?_
      exact qb_zret1 hX 13 rfl hR (by decide) (fun _ h => h)
theorem jm_Run_hasPieces {l : Launch} {G : qm_G} (hG : qm_GI G) (this : Nat) (p1 : Int32) (hthis : (qm_kd this).1 = 14) : qm_MI l G jy_Run_hasPieces prog_6_method_8_code 2 (some .boolean) 1 22 [.ref (G.1 this), .int p1] (jf_Run_hasPieces this p1) :=
  qm_metI (by decide +kernel) jd_Run_hasPieces (fun v hv => by simp only [List.mem_cons, List.not_mem_nil, or_false] at hv; rcases hv with rfl | rfl <;> rfl) (by exact Nat.le_of_ble_eq_true rfl) hG rfl (fun X hl hg hX r0 σ0 hR => by subst hl; subst hg; exact jb_Run_hasPieces hX hR this p1 hthis)
def jl_Run_putCell : List qm_I := [(0, .iload_n 1, 1, 1), (1, .ifCond .lt 31, 3, 4), (4, .iload_n 1, 1, 5), (5, .bipush 16, 2, 7), (7, .if_icmp .ge 25, 3, 10), (10, .iload_n 2, 1, 11), (11, .ifCond .lt 21, 3, 14), (14, .iload_n 2, 1, 15), (15, .bipush 16, 2, 17), (17, .if_icmp .ge 15, 3, 20), (20, .aload_n 0, 1, 21), (21, .getfield 15, 3, 24), (24, .iload_n 1, 1, 25), (25, .bipush 16, 2, 27), (27, .imul, 1, 28), (28, .iload_n 2, 1, 29), (29, .iadd, 1, 30), (30, .iload_n 3, 1, 31), (31, .iastore, 1, 32), (32, .return_, 1, 33)]
theorem jd_Run_putCell : qm_D prog_6_method_10_code jl_Run_putCell := qm_D_of (by decide +kernel)
noncomputable def jf_Run_putCell (this : Nat) (p1 : Int32) (p2 : Int32) (p3 : Int32) : qm_M Unit :=
  if p1 < 0 then
    mP ()
  else
    if 16 ≤ p1 then
      mP ()
    else
      if p2 < 0 then
        mP ()
      else
        if 16 ≤ p2 then
          mP ()
        else
          mB (mSt (qm_rf this 2) ((p1 * 16) + p2) p3) fun _ =>
          mP ()
set_option maxRecDepth 20000 in
set_option maxHeartbeats 4000000 in
theorem jb_Run_putCell {X : qm_X} (hX : qm_ok X qr_Run prog_6_method_10_code 4 0 0 jl_Run_putCell) {σ0 : qm_Mem} (hR : qm_RV X σ0) (this : Nat) (p1 : Int32) (p2 : Int32) (p3 : Int32) (hthis : (qm_kd this).1 = 14) : qm_B X (jf_Run_putCell this p1 p2 p3) 0 [some (.ref (qx_ad X this)), some (.int p1), some (.int p2), some (.int p3)] [] (fun _ σ1 => σ1 = σ0) := by
  unfold jf_Run_putCell
  refine qb_iload_n hX 0 rfl rfl ?_
  refine qb_iflt hX 1 32 rfl (by decide) ?_ ?_
  ·
    exact qb_vret hX 19 rfl hR (fun _ h => h)
  ·
    refine qb_iload_n hX 2 rfl rfl ?_
    refine qb_bipush hX 3 16 rfl (by decide) ?_
    refine qb_icge hX 4 32 rfl (by decide) ?_ ?_
    ·
      exact qb_vret hX 19 rfl hR (fun _ h => h)
    ·
      refine qb_iload_n hX 5 rfl rfl ?_
      refine qb_iflt hX 6 32 rfl (by decide) ?_ ?_
      ·
        exact qb_vret hX 19 rfl hR (fun _ h => h)
      ·
        refine qb_iload_n hX 7 rfl rfl ?_
        refine qb_bipush hX 8 16 rfl (by decide) ?_
        refine qb_icge hX 9 32 rfl (by decide) ?_ ?_
        ·
          exact qb_vret hX 19 rfl hR (fun _ h => h)
        ·
          refine qb_aload_n hX 10 rfl rfl ?_
          refine qb_getR hX 11 rfl fl_Run_15 hthis rfl ?_
          refine qb_iload_n hX 12 rfl rfl ?_
          refine qb_bipush hX 13 16 rfl (by decide) ?_
          refine qb_imul hX 14 rfl ?_
          refine qb_iload_n hX 15 rfl rfl ?_
          refine qb_iadd hX 16 rfl ?_
          refine qb_iload_n hX 17 rfl rfl ?_
          refine qb_iast hX 18 rfl (kf_Run_2 hthis) ?_
          exact qb_vret hX 19 rfl hR (fun _ h => h)
theorem jm_Run_putCell {l : Launch} {G : qm_G} (hG : qm_GI G) (this : Nat) (p1 : Int32) (p2 : Int32) (p3 : Int32) (hthis : (qm_kd this).1 = 14) : qm_MV l G jy_Run_putCell prog_6_method_10_code 4 0 0 [.ref (G.1 this), .int p1, .int p2, .int p3] (jf_Run_putCell this p1 p2 p3) :=
  qm_metV (by decide +kernel) jd_Run_putCell (fun v hv => by simp only [List.mem_cons, List.not_mem_nil, or_false] at hv; rcases hv with rfl | rfl | rfl | rfl <;> rfl) (by exact Nat.le_of_ble_eq_true rfl) hG (fun X hl hg hX σ0 hR => by subst hl; subst hg; exact jb_Run_putCell hX hR this p1 p2 p3 hthis)
