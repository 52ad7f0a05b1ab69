def jl_Press_used : List qm_I := [(0, .aload_n 0, 1, 1), (1, .iload_n 1, 1, 2), (2, .bipush 7, 2, 4), (4, .invokevirtual 155, 3, 7), (7, .aload_n 0, 1, 8), (8, .iload_n 1, 1, 9), (9, .bipush 6, 2, 11), (11, .invokevirtual 155, 3, 14), (14, .iadd, 1, 15), (15, .ifCond .le 7, 3, 18), (18, .iconst 1, 1, 19), (19, .goto 4, 3, 22), (22, .iconst 0, 1, 23), (23, .istore_n 2, 1, 24), (24, .iload_n 2, 1, 25), (25, .ifCond .eq 15, 3, 28), (28, .aload_n 0, 1, 29), (29, .getfield 9, 3, 32), (32, .bipush 6, 2, 34), (34, .invokevirtual 70, 3, 37), (37, .goto 4, 3, 40), (40, .iconst 0, 1, 41), (41, .istore_n 3, 1, 42), (42, .aload_n 0, 1, 43), (43, .iload_n 1, 1, 44), (44, .iconst 5, 1, 45), (45, .invokevirtual 155, 3, 48), (48, .iload_n 3, 1, 49), (49, .iadd, 1, 50), (50, .aload_n 0, 1, 51), (51, .iload_n 1, 1, 52), (52, .bipush 8, 2, 54), (54, .invokevirtual 155, 3, 57), (57, .aload_n 0, 1, 58), (58, .getfield 9, 3, 61), (61, .iconst 5, 1, 62), (62, .invokevirtual 70, 3, 65), (65, .imul, 1, 66), (66, .iadd, 1, 67), (67, .ireturn, 1, 68)]
theorem jd_Press_used : qm_D prog_5_method_14_code jl_Press_used := qm_D_of (by decide +kernel)
noncomputable def jf_Press_used (this : Nat) (p1 : Int32) : qm_M Int32 :=
  mB (jf_Press_cell this p1 7) fun x1 =>
  mB (jf_Press_cell this p1 6) fun x2 =>
  mB (α := Int32) (
    if (x1 + x2) ≤ 0 then
      mP 0
    else
      mP 1) fun s3 =>
  mB (α := Int32) (
    if s3 = 0 then
      mP 0
    else
      mB (jf_Run_setting (qm_rf this 0) 6) fun x5 =>
      mP x5) fun s4 =>
  mB (jf_Press_cell this p1 5) fun x6 =>
  mB (jf_Press_cell this p1 8) fun x7 =>
  mB (jf_Run_setting (qm_rf this 0) 5) fun x8 =>
  mP ((x6 + s4) + (x7 * x8))
set_option maxRecDepth 20000 in
set_option maxHeartbeats 4000000 in
theorem jb_Press_used {X : qm_X} (hX : qm_ok X qr_Press prog_5_method_14_code 4 2 43 jl_Press_used) {r0 : Int32} {σ0 : qm_Mem} (hR : qm_RI X r0 σ0 .int) (this : Nat) (p1 : Int32) (hthis : (qm_kd this).1 = 13) : qm_B X (jf_Press_used this p1) 0 [some (.ref (qx_ad X this)), some (.int p1), none, none] [] (fun r σ1 => r = r0 ∧ σ1 = σ0) := by
  unfold jf_Press_used
  refine qb_aload_n hX 0 rfl rfl ?_
  refine qb_iload_n hX 1 rfl rfl ?_
  refine qb_bipush hX 2 7 rfl (by decide) ?_
  refine qb_callI hX 3 rfl cv_Press_155 (jm_Press_cell (qk_GI hX) this p1 7 hthis ) (ci := 3) hthis ⟨rfl, rfl, rfl, by decide, by decide⟩ rfl (by exact Nat.le_of_ble_eq_true rfl) (fun x1 => ?_)
  refine qb_aload_n hX 4 rfl rfl ?_
  refine qb_iload_n hX 5 rfl rfl ?_
  refine qb_bipush hX 6 6 rfl (by decide) ?_
  refine qb_callI hX 7 rfl cv_Press_155 (jm_Press_cell (qk_GI hX) this p1 6 hthis ) (ci := 3) hthis ⟨rfl, rfl, rfl, by decide, by decide⟩ rfl (by exact Nat.le_of_ble_eq_true rfl) (fun x2 => ?_)
  refine qb_iadd hX 8 rfl ?_
  refine qb_join 23 (fun s3 => [some (.ref (qx_ad X this)), some (.int p1), none, none]) (fun s3 => [.int s3]) ?_ ?_
  ·
    refine qb_ifle hX 9 22 rfl (by decide) ?_ ?_
    ·
      refine qb_iconst hX 12 0 rfl (by decide) ?_
      exact qb_exit (fun σ h => qj_wk (ρ' := [some (.ref (qx_ad X this)), some (.int p1), none, none]) (qw_s (qw_s (qw_n (qw_n (qw_0))))) h)
    ·
      refine qb_iconst hX 10 1 rfl (by decide) ?_
      exact qb_exit (fun σ h => qj_goto hX 11 rfl (by decide) (qj_wk (ρ' := [some (.ref (qx_ad X this)), some (.int p1), none, none]) (qw_s (qw_s (qw_n (qw_n (qw_0))))) h))
  · intro s3
    refine qb_istore_n hX 13 ([some (.ref (qx_ad X this)), some (.int p1), some (.int s3), none]) rfl (by decide) rfl ?_
    refine qb_iload_n hX 14 rfl rfl ?_
    refine qb_join 41 (fun s4 => [some (.ref (qx_ad X this)), some (.int p1), none, none]) (fun s4 => [.int s4]) ?_ ?_
    ·
      refine qb_ifeq hX 15 40 rfl (by decide) ?_ ?_
      ·
        refine qb_iconst hX 21 0 rfl (by decide) ?_
        exact qb_exit (fun σ h => qj_wk (ρ' := [some (.ref (qx_ad X this)), some (.int p1), none, none]) (qw_s (qw_s (qw_n (qw_n (qw_0))))) h)
      ·
        refine qb_aload_n hX 16 rfl rfl ?_
        refine qb_getR hX 17 rfl fl_Press_9 hthis rfl ?_
        refine qb_bipush hX 18 6 rfl (by decide) ?_
        refine qb_callI hX 19 rfl cv_Press_70 (jm_Run_setting (qk_GI hX) (qm_rf this 0) 6 (kf_Press_0 hthis) ) (ci := 4) (kf_Press_0 hthis) ⟨rfl, rfl, rfl, by decide, by decide⟩ rfl (by exact Nat.le_of_ble_eq_true rfl) (fun x5 => ?_)
        exact qb_exit (fun σ h => qj_goto hX 20 rfl (by decide) (qj_wk (ρ' := [some (.ref (qx_ad X this)), some (.int p1), none, none]) (qw_s (qw_s (qw_n (qw_n (qw_0))))) h))
    · intro s4
      refine qb_istore_n hX 22 ([some (.ref (qx_ad X this)), some (.int p1), none, some (.int s4)]) rfl (by decide) rfl ?_
      refine qb_aload_n hX 23 rfl rfl ?_
      refine qb_iload_n hX 24 rfl rfl ?_
      refine qb_iconst hX 25 5 rfl (by decide) ?_
      refine qb_callI hX 26 rfl cv_Press_155 (jm_Press_cell (qk_GI hX) this p1 5 hthis ) (ci := 3) hthis ⟨rfl, rfl, rfl, by decide, by decide⟩ rfl (by exact Nat.le_of_ble_eq_true rfl) (fun x6 => ?_)
      refine qb_iload_n hX 27 rfl rfl ?_
      refine qb_iadd hX 28 rfl ?_
      refine qb_aload_n hX 29 rfl rfl ?_
      refine qb_iload_n hX 30 rfl rfl ?_
      refine qb_bipush hX 31 8 rfl (by decide) ?_
      refine qb_callI hX 32 rfl cv_Press_155 (jm_Press_cell (qk_GI hX) this p1 8 hthis ) (ci := 3) hthis ⟨rfl, rfl, rfl, by decide, by decide⟩ rfl (by exact Nat.le_of_ble_eq_true rfl) (fun x7 => ?_)
      refine qb_aload_n hX 33 rfl rfl ?_
      refine qb_getR hX 34 rfl fl_Press_9 hthis rfl ?_
      refine qb_iconst hX 35 5 rfl (by decide) ?_
      refine qb_callI hX 36 rfl cv_Press_70 (jm_Run_setting (qk_GI hX) (qm_rf this 0) 5 (kf_Press_0 hthis) ) (ci := 4) (kf_Press_0 hthis) ⟨rfl, rfl, rfl, by decide, by decide⟩ rfl (by exact Nat.le_of_ble_eq_true rfl) (fun x8 => ?_)
      refine qb_imul hX 37 rfl ?_
      refine qb_iadd hX 38 rfl ?_
      exact qb_iret hX 39 rfl hR (fun _ h => h)
theorem jm_Press_used {l : Launch} {G : qm_G} (hG : qm_GI G) (this : Nat) (p1 : Int32) (hthis : (qm_kd this).1 = 13) : qm_MI l G jy_Press_used prog_5_method_14_code 4 (some .int) 2 43 [.ref (G.1 this), .int p1] (jf_Press_used this p1) :=
  qm_metI (by decide +kernel) jd_Press_used (fun v hv => by simp only [List.mem_cons, List.not_mem_nil, or_false] at hv; rcases hv with rfl | rfl <;> rfl) (by exact Nat.le_of_ble_eq_true rfl) hG rfl (fun X hl hg hX r0 σ0 hR => by subst hl; subst hg; exact jb_Press_used hX hR this p1 hthis)
def jl_Press_columnOf : List qm_I := [(0, .iconst 0, 1, 1), (1, .istore_n 2, 1, 2), (2, .iload_n 2, 1, 3), (3, .aload_n 0, 1, 4), (4, .getfield 64, 3, 7), (7, .if_icmp .ge 31, 3, 10), (10, .aload_n 0, 1, 11), (11, .iload_n 2, 1, 12), (12, .iconst 3, 1, 13), (13, .invokevirtual 155, 3, 16), (16, .iload_n 1, 1, 17), (17, .if_icmp .gt 15, 3, 20), (20, .iload_n 1, 1, 21), (21, .aload_n 0, 1, 22), (22, .iload_n 2, 1, 23), (23, .iconst 4, 1, 24), (24, .invokevirtual 155, 3, 27), (27, .if_icmp .ge 5, 3, 30), (30, .iload_n 2, 1, 31), (31, .ireturn, 1, 32), (32, .iinc 2 1, 3, 35), (35, .goto (-33), 3, 38), (38, .iconst (-1), 1, 39), (39, .ireturn, 1, 40)]
theorem jd_Press_columnOf : qm_D prog_5_method_17_code jl_Press_columnOf := qm_D_of (by decide +kernel)
noncomputable def jf_Press_columnOf (this : Nat) (p1 : Int32) : qm_M Int32 :=
  mB (α := (Unit ⊕ Int32)) (
    mW (S := Int32) (α := (Unit ⊕ Int32)) (fun s2 =>
      mB (mGt this 4) fun x3 =>
      if x3 ≤ s2 then
        mP (Sum.inr (Sum.inl ()))
      else
        mB (jf_Press_cell this s2 3) fun x4 =>
        mB (α := (Unit ⊕ (Int32 ⊕ (Unit ⊕ Int32)))) (
          if p1 < x4 then
            mP (Sum.inl ())
          else
            mB (jf_Press_cell this s2 4) fun x6 =>
            if x6 ≤ p1 then
              mP (Sum.inl ())
            else
              mP (Sum.inr (Sum.inr (Sum.inr s2)))) (Sum.elim (fun s5 =>
          mB (mP (s2 + 1)) fun x7 =>
          mP (Sum.inl x7)) mP)) 0) (Sum.elim (fun s1 =>
    mP (-1)) mP)
set_option maxRecDepth 20000 in
set_option maxHeartbeats 4000000 in
theorem jb_Press_columnOf {X : qm_X} (hX : qm_ok X qr_Press prog_5_method_17_code 3 2 43 jl_Press_columnOf) {r0 : Int32} {σ0 : qm_Mem} (hR : qm_RI X r0 σ0 .int) (this : Nat) (p1 : Int32) (hthis : (qm_kd this).1 = 13) : qm_B X (jf_Press_columnOf this p1) 0 [some (.ref (qx_ad X this)), some (.int p1), none] [] (fun r σ1 => r = r0 ∧ σ1 = σ0) := by
  unfold jf_Press_columnOf
  refine qb_iconst hX 0 0 rfl (by decide) ?_
  refine qb_istore_n hX 1 ([some (.ref (qx_ad X this)), some (.int p1), some (.int 0)]) rfl (by decide) rfl ?_
  refine qb_join2 38 (fun s1 => [none, none, none]) (fun s1 => []) ?_ ?_
  ·
    refine qb_loopw (0) (fun s2 => [some (.ref (qx_ad X this)), some (.int p1), some (.int s2)]) (qw_s (qw_s (qw_s (qw_0)))) (fun s2 => ?_)
    refine qb_iload_n hX 2 rfl rfl ?_
    refine qb_aload_n hX 3 rfl rfl ?_
    refine qb_get hX 4 rfl fl_Press_64 hthis rfl (fun x3 => ?_)
    refine qb_icge hX 5 38 rfl (by decide) ?_ ?_
    ·
      exact qb_exit (fun σ h => qj_wk (ρ' := [none, none, none]) (qw_n (qw_n (qw_n (qw_0)))) h)
    ·
      refine qb_aload_n hX 6 rfl rfl ?_
      refine qb_iload_n hX 7 rfl rfl ?_
      refine qb_iconst hX 8 3 rfl (by decide) ?_
      refine qb_callI hX 9 rfl cv_Press_155 (jm_Press_cell (qk_GI hX) this s2 3 hthis ) (ci := 3) hthis ⟨rfl, rfl, rfl, by decide, by decide⟩ rfl (by exact Nat.le_of_ble_eq_true rfl) (fun x4 => ?_)
      refine qb_iload_n hX 10 rfl rfl ?_
      refine qb_join2 32 (fun s5 => [some (.ref (qx_ad X this)), some (.int p1), some (.int s2)]) (fun s5 => []) ?_ ?_
      ·
        refine qb_icgt hX 11 32 rfl (by decide) ?_ ?_
        ·
          exact qb_exit (fun σ h => qj_wk (ρ' := [some (.ref (qx_ad X this)), some (.int p1), some (.int s2)]) (qw_s (qw_s (qw_s (qw_0)))) h)
        ·
          refine qb_iload_n hX 12 rfl rfl ?_
          refine qb_aload_n hX 13 rfl rfl ?_
          refine qb_iload_n hX 14 rfl rfl ?_
          refine qb_iconst hX 15 4 rfl (by decide) ?_
          refine qb_callI hX 16 rfl cv_Press_155 (jm_Press_cell (qk_GI hX) this s2 4 hthis ) (ci := 3) hthis ⟨rfl, rfl, rfl, by decide, by decide⟩ rfl (by exact Nat.le_of_ble_eq_true rfl) (fun x6 => ?_)
          refine qb_icge hX 17 32 rfl (by decide) ?_ ?_
          ·
            exact qb_exit (fun σ h => qj_wk (ρ' := [some (.ref (qx_ad X this)), some (.int p1), some (.int s2)]) (qw_s (qw_s (qw_s (qw_0)))) h)
          ·
            refine qb_iload_n hX 18 rfl rfl ?_
            exact qb_iret hX 19 rfl hR (fun _ h => h)
      · intro s5
        refine qb_iinc hX 20 1 (fun x7 => [some (.ref (qx_ad X this)), some (.int p1), some (.int x7)]) rfl (by decide) (by decide) rfl (fun _ => rfl) (fun x7 => ?_)
        exact qb_exit (fun σ h => qj_goto hX 21 rfl (by decide) (qj_wk (ρ' := [some (.ref (qx_ad X this)), some (.int p1), some (.int x7)]) (qw_s (qw_s (qw_s (qw_0)))) h))
  · intro s1
    refine qb_iconst hX 22 (-1) rfl (by decide) ?_
    exact qb_iret hX 23 rfl hR (fun _ h => h)
theorem jm_Press_columnOf {l : Launch} {G : qm_G} (hG : qm_GI G) (this : Nat) (p1 : Int32) (hthis : (qm_kd this).1 = 13) : qm_MI l G jy_Press_columnOf prog_5_method_17_code 3 (some .int) 2 43 [.ref (G.1 this), .int p1] (jf_Press_columnOf this p1) :=
  qm_metI (by decide +kernel) jd_Press_columnOf (fun v hv => by simp only [List.mem_cons, List.not_mem_nil, or_false] at hv; rcases hv with rfl | rfl <;> rfl) (by exact Nat.le_of_ble_eq_true rfl) hG rfl (fun X hl hg hX r0 σ0 hR => by subst hl; subst hg; exact jb_Press_columnOf hX hR this p1 hthis)
def jl_Press_leftOfNote : List qm_I := [(0, .aload_n 0, 1, 1), (1, .getfield 20, 3, 4), (4, .iload_n 1, 1, 5), (5, .iconst 1, 1, 6), (6, .iadd, 1, 7), (7, .aload_n 0, 1, 8), (8, .iload_n 2, 1, 9), (9, .iconst 4, 1, 10), (10, .invokevirtual 155, 3, 13), (13, .invokevirtual 146, 3, 16), (16, .ifCond .ne 7, 3, 19), (19, .iconst 1, 1, 20), (20, .goto 4, 3, 23), (23, .iconst 0, 1, 24), (24, .istore_n 3, 1, 25), (25, .iload_n 3, 1, 26), (26, .ifCond .eq 29, 3, 29), (29, .aload_n 0, 1, 30), (30, .iload_n 2, 1, 31), (31, .bipush 6, 2, 33), (33, .invokevirtual 155, 3, 36), (36, .aload_n 0, 1, 37), (37, .iload_n 2, 1, 38), (38, .bipush 7, 2, 40), (40, .invokevirtual 155, 3, 43), (43, .iadd, 1, 44), (44, .aload_n 0, 1, 45), (45, .iload_n 2, 1, 46), (46, .bipush 8, 2, 48), (48, .invokevirtual 155, 3, 51), (51, .isub, 1, 52), (52, .goto 4, 3, 55), (55, .iconst 0, 1, 56), (56, .ireturn, 1, 57)]
theorem jd_Press_leftOfNote : qm_D prog_5_method_18_code jl_Press_leftOfNote := qm_D_of (by decide +kernel)
noncomputable def jf_Press_leftOfNote (this : Nat) (p1 : Int32) (p2 : Int32) : qm_M Int32 :=
  mB (jf_Press_cell this p2 4) fun x1 =>
  mB (jf_Flow_ownLines (qm_rf this 1) (p1 + 1) x1) fun x2 =>
  mB (α := Int32) (
    if ¬ x2 = 0 then
      mP 0
    else
      mP 1) fun s3 =>
  if s3 = 0 then
    mP 0
  else
    mB (jf_Press_cell this p2 6) fun x4 =>
    mB (jf_Press_cell this p2 7) fun x5 =>
    mB (jf_Press_cell this p2 8) fun x6 =>
    mP ((x4 + x5) - x6)
set_option maxRecDepth 20000 in
set_option maxHeartbeats 4000000 in
theorem jb_Press_leftOfNote {X : qm_X} (hX : qm_ok X qr_Press prog_5_method_18_code 4 2 43 jl_Press_leftOfNote) {r0 : Int32} {σ0 : qm_Mem} (hR : qm_RI X r0 σ0 .int) (this : Nat) (p1 : Int32) (p2 : Int32) (hthis : (qm_kd this).1 = 13) : qm_B X (jf_Press_leftOfNote this p1 p2) 0 [some (.ref (qx_ad X this)), some (.int p1), some (.int p2), none] [] (fun r σ1 => r = r0 ∧ σ1 = σ0) := by
  unfold jf_Press_leftOfNote
  refine qb_aload_n hX 0 rfl rfl ?_
  refine qb_getR hX 1 rfl fl_Press_20 hthis rfl ?_
  refine qb_iload_n hX 2 rfl rfl ?_
  refine qb_iconst hX 3 1 rfl (by decide) ?_
  refine qb_iadd hX 4 rfl ?_
  refine qb_aload_n hX 5 rfl rfl ?_
  refine qb_iload_n hX 6 rfl rfl ?_
  refine qb_iconst hX 7 4 rfl (by decide) ?_
  refine qb_callI hX 8 rfl cv_Press_155 (jm_Press_cell (qk_GI hX) this p2 4 hthis ) (ci := 3) hthis ⟨rfl, rfl, rfl, by decide, by decide⟩ rfl (by exact Nat.le_of_ble_eq_true rfl) (fun x1 => ?_)
  refine qb_callI hX 9 rfl cv_Press_146 (jm_Flow_ownLines (qk_GI hX) (qm_rf this 1) (p1 + 1) x1 (kf_Press_1 hthis) ) (ci := 1) (kf_Press_1 hthis) ⟨rfl, rfl, rfl, by decide, by decide⟩ rfl (by exact Nat.le_of_ble_eq_true rfl) (fun x2 => ?_)
  refine qb_join 24 (fun s3 => [some (.ref (qx_ad X this)), none, some (.int p2), none]) (fun s3 => [.int s3]) ?_ ?_
  ·
    refine qb_ifne hX 10 23 rfl (by decide) ?_ ?_
    ·
      refine qb_iconst hX 13 0 rfl (by decide) ?_
      exact qb_exit (fun σ h => qj_wk (ρ' := [some (.ref (qx_ad X this)), none, some (.int p2), none]) (qw_s (qw_n (qw_s (qw_n (qw_0))))) h)
    ·
      refine qb_iconst hX 11 1 rfl (by decide) ?_
      exact qb_exit (fun σ h => qj_goto hX 12 rfl (by decide) (qj_wk (ρ' := [some (.ref (qx_ad X this)), none, some (.int p2), none]) (qw_s (qw_n (qw_s (qw_n (qw_0))))) h))
  · intro s3
    refine qb_istore_n hX 14 ([some (.ref (qx_ad X this)), none, some (.int p2), some (.int s3)]) rfl (by decide) rfl ?_
    refine qb_iload_n hX 15 rfl rfl ?_
    refine qb_ifeq hX 16 55 rfl (by decide) ?_ ?_
    ·
      refine qb_iconst hX 32 0 rfl (by decide) ?_
      exact qb_iret hX 33 rfl hR (fun _ h => h)
    ·
      refine qb_aload_n hX 17 rfl rfl ?_
      refine qb_iload_n hX 18 rfl rfl ?_
      refine qb_bipush hX 19 6 rfl (by decide) ?_
      refine qb_callI hX 20 rfl cv_Press_155 (jm_Press_cell (qk_GI hX) this p2 6 hthis ) (ci := 3) hthis ⟨rfl, rfl, rfl, by decide, by decide⟩ rfl (by exact Nat.le_of_ble_eq_true rfl) (fun x4 => ?_)
      refine qb_aload_n hX 21 rfl rfl ?_
      refine qb_iload_n hX 22 rfl rfl ?_
      refine qb_bipush hX 23 7 rfl (by decide) ?_
      refine qb_callI hX 24 rfl cv_Press_155 (jm_Press_cell (qk_GI hX) this p2 7 hthis ) (ci := 3) hthis ⟨rfl, rfl, rfl, by decide, by decide⟩ rfl (by exact Nat.le_of_ble_eq_true rfl) (fun x5 => ?_)
      refine qb_iadd hX 25 rfl ?_
      refine qb_aload_n hX 26 rfl rfl ?_
      refine qb_iload_n hX 27 rfl rfl ?_
      refine qb_bipush hX 28 8 rfl (by decide) ?_
      refine qb_callI hX 29 rfl cv_Press_155 (jm_Press_cell (qk_GI hX) this p2 8 hthis ) (ci := 3) hthis ⟨rfl, rfl, rfl, by decide, by decide⟩ rfl (by exact Nat.le_of_ble_eq_true rfl) (fun x6 => ?_)
      refine qb_isub hX 30 rfl ?_
      refine qb_goto hX 31 (tgt := 56) rfl (by decide) ?_
      exact qb_iret hX 33 rfl hR (fun _ h => h)
theorem jm_Press_leftOfNote {l : Launch} {G : qm_G} (hG : qm_GI G) (this : Nat) (p1 : Int32) (p2 : Int32) (hthis : (qm_kd this).1 = 13) : qm_MI l G jy_Press_leftOfNote prog_5_method_18_code 4 (some .int) 2 43 [.ref (G.1 this), .int p1, .int p2] (jf_Press_leftOfNote this p1 p2) :=
  qm_metI (by decide +kernel) jd_Press_leftOfNote (fun v hv => by simp only [List.mem_cons, List.not_mem_nil, or_false] at hv; rcases hv with rfl | rfl | rfl <;> rfl) (by exact Nat.le_of_ble_eq_true rfl) hG rfl (fun X hl hg hX r0 σ0 hR => by subst hl; subst hg; exact jb_Press_leftOfNote hX hR this p1 p2 hthis)
def jl_Press_linesByMark : List qm_I := [(0, .aload_n 0, 1, 1), (1, .iload_n 1, 1, 2), (2, .invokevirtual 164, 3, 5), (5, .istore_n 2, 1, 6), (6, .iload_n 2, 1, 7), (7, .iconst (-1), 1, 8), (8, .if_icmp .ne 8, 3, 11), (11, .bipush (-2), 2, 13), (13, .goto 21, 3, 16), (16, .aload_n 0, 1, 17), (17, .getfield 20, 3, 20), (20, .getfield 167, 3, 23), (23, .iload_n 1, 1, 24), (24, .invokestatic 88, 3, 27), (27, .aload_n 0, 1, 28), (28, .iload_n 1, 1, 29), (29, .iload_n 2, 1, 30), (30, .invokevirtual 170, 3, 33), (33, .isub, 1, 34), (34, .ireturn, 1, 35)]
theorem jd_Press_linesByMark : qm_D prog_5_method_19_code jl_Press_linesByMark := qm_D_of (by decide +kernel)
noncomputable def jf_Press_linesByMark (this : Nat) (p1 : Int32) : qm_M Int32 :=
  mB (jf_Press_columnOf this p1) fun x1 =>
  if ¬ x1 = (-1) then
    mB (jf_Top_at (qm_rf (qm_rf this 1) 9) p1) fun x2 =>
    mB (jf_Press_leftOfNote this p1 x1) fun x3 =>
    mP (x2 - x3)
  else
    mP (-2)
set_option maxRecDepth 20000 in
set_option maxHeartbeats 4000000 in
theorem jb_Press_linesByMark {X : qm_X} (hX : qm_ok X qr_Press prog_5_method_19_code 3 3 66 jl_Press_linesByMark) {r0 : Int32} {σ0 : qm_Mem} (hR : qm_RI X r0 σ0 .int) (this : Nat) (p1 : Int32) (hthis : (qm_kd this).1 = 13) : qm_B X (jf_Press_linesByMark this p1) 0 [some (.ref (qx_ad X this)), some (.int p1), none] [] (fun r σ1 => r = r0 ∧ σ1 = σ0) := by
  unfold jf_Press_linesByMark
  refine qb_aload_n hX 0 rfl rfl ?_
  refine qb_iload_n hX 1 rfl rfl ?_
  refine qb_callI hX 2 rfl cv_Press_164 (jm_Press_columnOf (qk_GI hX) this p1 hthis ) (ci := 3) hthis ⟨rfl, rfl, rfl, by decide, by decide⟩ rfl (by exact Nat.le_of_ble_eq_true rfl) (fun x1 => ?_)
  refine qb_istore_n hX 3 ([some (.ref (qx_ad X this)), some (.int p1), some (.int x1)]) rfl (by decide) rfl ?_
  refine qb_iload_n hX 4 rfl rfl ?_
  refine qb_iconst hX 5 (-1) rfl (by decide) ?_
  refine qb_icne hX 6 16 rfl (by decide) ?_ ?_
  ·
    refine qb_aload_n hX 9 rfl rfl ?_
    refine qb_getR hX 10 rfl fl_Press_20 hthis rfl ?_
    refine qb_getR hX 11 rfl fl_Press_167 (kf_Press_1 hthis) rfl ?_
    refine qb_iload_n hX 12 rfl rfl ?_
    refine qb_calNI hX 13 rfl cv_Press_88 (jm_Top_at (qk_GI hX) (qm_rf (qm_rf this 1) 9) p1 (kf_Flow_9 (kf_Press_1 hthis))) ⟨rfl, by decide, by decide⟩ rfl (by exact Nat.le_of_ble_eq_true rfl) (fun x2 => ?_)
    refine qb_aload_n hX 14 rfl rfl ?_
    refine qb_iload_n hX 15 rfl rfl ?_
    refine qb_iload_n hX 16 rfl rfl ?_
    refine qb_callI hX 17 rfl cv_Press_170 (jm_Press_leftOfNote (qk_GI hX) this p1 x1 hthis ) (ci := 3) hthis ⟨rfl, rfl, rfl, by decide, by decide⟩ rfl (by exact Nat.le_of_ble_eq_true rfl) (fun x3 => ?_)
    refine qb_isub hX 18 rfl ?_
    exact qb_iret hX 19 rfl hR (fun _ h => h)
  ·
    refine qb_bipush hX 7 (-2) rfl (by decide) ?_
    refine qb_goto hX 8 (tgt := 34) rfl (by decide) ?_
    exact qb_iret hX 19 rfl hR (fun _ h => h)
theorem jm_Press_linesByMark {l : Launch} {G : qm_G} (hG : qm_GI G) (this : Nat) (p1 : Int32) (hthis : (qm_kd this).1 = 13) : qm_MI l G jy_Press_linesByMark prog_5_method_19_code 3 (some .int) 3 66 [.ref (G.1 this), .int p1] (jf_Press_linesByMark this p1) :=
  qm_metI (by decide +kernel) jd_Press_linesByMark (fun v hv => by simp only [List.mem_cons, List.not_mem_nil, or_false] at hv; rcases hv with rfl | rfl <;> rfl) (by exact Nat.le_of_ble_eq_true rfl) hG rfl (fun X hl hg hX r0 σ0 hR => by subst hl; subst hg; exact jb_Press_linesByMark hX hR this p1 hthis)
def jl_Press_columnsOfNote : List qm_I := [(0, .aload_n 0, 1, 1), (1, .iload_n 1, 1, 2), (2, .invokevirtual 164, 3, 5), (5, .istore_n 2, 1, 6), (6, .iload_n 2, 1, 7), (7, .iconst (-1), 1, 8), (8, .if_icmp .ne 6, 3, 11), (11, .bipush (-2), 2, 13), (13, .ireturn, 1, 14), (14, .iconst 1, 1, 15), (15, .istore_n 3, 1, 16), (16, .aload_n 0, 1, 17), (17, .iload_n 1, 1, 18), (18, .iload_n 2, 1, 19), (19, .invokevirtual 170, 3, 22), (22, .istore 4, 2, 24), (24, .iload_n 2, 1, 25), (25, .iconst 1, 1, 26), (26, .iadd, 1, 27), (27, .istore 5, 2, 29), (29, .iload 5, 2, 31), (31, .aload_n 0, 1, 32), (32, .getfield 64, 3, 35), (35, .if_icmp .ge 41, 3, 38), (38, .iload 4, 2, 40), (40, .ifCond .le 36, 3, 43), (43, .aload_n 0, 1, 44), (44, .iload 5, 2, 46), (46, .bipush 8, 2, 48), (48, .invokevirtual 155, 3, 51), (51, .ifCond .le 6, 3, 54), (54, .iinc 3 1, 3, 57), (57, .iload 4, 2, 59), (59, .aload_n 0, 1, 60), (60, .iload 5, 2, 62), (62, .bipush 8, 2, 64), (64, .invokevirtual 155, 3, 67), (67, .isub, 1, 68), (68, .istore 4, 2, 70), (70, .iinc 5 1, 3, 73), (73, .goto (-44), 3, 76), (76, .iload_n 3, 1, 77), (77, .ireturn, 1, 78)]
theorem jd_Press_columnsOfNote : qm_D prog_5_method_20_code jl_Press_columnsOfNote := qm_D_of (by decide +kernel)
noncomputable def jf_Press_columnsOfNote (this : Nat) (p1 : Int32) : qm_M Int32 :=
  mB (jf_Press_columnOf this p1) fun x1 =>
  if ¬ x1 = (-1) then
    mB (jf_Press_leftOfNote this p1 x1) fun x2 =>
    mB (mP (x1 + 1)) fun x3 =>
    mB (α := Int32) (
      mW (S := Int32 × Int32 × Int32) (α := Int32) (fun s5 =>
        mB (mGt this 4) fun x6 =>
        if x6 ≤ s5.2.2 then
          mP (Sum.inr s5.1)
        else
          if s5.2.1 ≤ 0 then
            mP (Sum.inr s5.1)
          else
            mB (jf_Press_cell this s5.2.2 8) fun x7 =>
            mB (α := Int32) (
              if x7 ≤ 0 then
                mP s5.1
              else
                mB (mP (s5.1 + 1)) fun x9 =>
                mP x9) fun s8 =>
            mB (jf_Press_cell this s5.2.2 8) fun x10 =>
            mB (mP (s5.2.1 - x10)) fun x11 =>
            mB (mP (s5.2.2 + 1)) fun x12 =>
            mP (Sum.inl (s8, x11, x12))) (1, x2, x3)) fun s4 =>
    mP s4
  else
    mP (-2)
set_option maxRecDepth 20000 in
set_option maxHeartbeats 4000000 in
theorem jb_Press_columnsOfNote {X : qm_X} (hX : qm_ok X qr_Press prog_5_method_20_code 6 3 66 jl_Press_columnsOfNote) {r0 : Int32} {σ0 : qm_Mem} (hR : qm_RI X r0 σ0 .int) (this : Nat) (p1 : Int32) (hthis : (qm_kd this).1 = 13) : qm_B X (jf_Press_columnsOfNote this p1) 0 [some (.ref (qx_ad X this)), some (.int p1), none, none, none, none] [] (fun r σ1 => r = r0 ∧ σ1 = σ0) := by
  unfold jf_Press_columnsOfNote
  refine qb_aload_n hX 0 rfl rfl ?_
  refine qb_iload_n hX 1 rfl rfl ?_
  refine qb_callI hX 2 rfl cv_Press_164 (jm_Press_columnOf (qk_GI hX) this p1 hthis ) (ci := 3) hthis ⟨rfl, rfl, rfl, by decide, by decide⟩ rfl (by exact Nat.le_of_ble_eq_true rfl) (fun x1 => ?_)
  refine qb_istore_n hX 3 ([some (.ref (qx_ad X this)), some (.int p1), some (.int x1), none, none, none]) rfl (by decide) rfl ?_
  refine qb_iload_n hX 4 rfl rfl ?_
  refine qb_iconst hX 5 (-1) rfl (by decide) ?_
  refine qb_icne hX 6 14 rfl (by decide) ?_ ?_
  ·
    refine qb_iconst hX 9 1 rfl (by decide) ?_
    refine qb_istore_n hX 10 ([some (.ref (qx_ad X this)), some (.int p1), some (.int x1), some (.int 1), none, none]) rfl (by decide) rfl ?_
    refine qb_aload_n hX 11 rfl rfl ?_
    refine qb_iload_n hX 12 rfl rfl ?_
    refine qb_iload_n hX 13 rfl rfl ?_
    refine qb_callI hX 14 rfl cv_Press_170 (jm_Press_leftOfNote (qk_GI hX) this p1 x1 hthis ) (ci := 3) hthis ⟨rfl, rfl, rfl, by decide, by decide⟩ rfl (by exact Nat.le_of_ble_eq_true rfl) (fun x2 => ?_)
    refine qb_istore hX 15 ([some (.ref (qx_ad X this)), some (.int p1), some (.int x1), some (.int 1), some (.int x2), none]) rfl (by decide) rfl ?_
    refine qb_iload_n hX 16 rfl rfl ?_
    refine qb_iconst hX 17 1 rfl (by decide) ?_
    refine qb_iadd hX 18 rfl ?_
    refine qb_istoreL hX 19 (fun x3 => [some (.ref (qx_ad X this)), some (.int p1), some (.int x1), some (.int 1), some (.int x2), some (.int x3)]) rfl (by decide) (fun _ => rfl) (fun x3 => ?_)
    refine qb_join 76 (fun s4 => [none, none, none, some (.int s4), none, none]) (fun s4 => []) ?_ ?_
    ·
      refine qb_loopw ((1, x2, x3)) (fun s5 => [some (.ref (qx_ad X this)), none, none, some (.int s5.1), some (.int s5.2.1), some (.int s5.2.2)]) (qw_s (qw_n (qw_n (qw_s (qw_s (qw_s (qw_0))))))) (fun s5 => ?_)
      refine qb_iload hX 20 rfl rfl ?_
      refine qb_aload_n hX 21 rfl rfl ?_
      refine qb_get hX 22 rfl fl_Press_64 hthis rfl (fun x6 => ?_)
      refine qb_icge hX 23 76 rfl (by decide) ?_ ?_
      ·
        exact qb_exit (fun σ h => qj_wk (ρ' := [none, none, none, some (.int s5.1), none, none]) (qw_n (qw_n (qw_n (qw_s (qw_n (qw_n (qw_0))))))) h)
      ·
        refine qb_iload hX 24 rfl rfl ?_
        refine qb_ifle hX 25 76 rfl (by decide) ?_ ?_
        ·
          exact qb_exit (fun σ h => qj_wk (ρ' := [none, none, none, some (.int s5.1), none, none]) (qw_n (qw_n (qw_n (qw_s (qw_n (qw_n (qw_0))))))) h)
        ·
          refine qb_aload_n hX 26 rfl rfl ?_
          refine qb_iload hX 27 rfl rfl ?_
          refine qb_bipush hX 28 8 rfl (by decide) ?_
          refine qb_callI hX 29 rfl cv_Press_155 (jm_Press_cell (qk_GI hX) this s5.2.2 8 hthis ) (ci := 3) hthis ⟨rfl, rfl, rfl, by decide, by decide⟩ rfl (by exact Nat.le_of_ble_eq_true rfl) (fun x7 => ?_)
          refine qb_join 57 (fun s8 => [some (.ref (qx_ad X this)), none, none, some (.int s8), some (.int s5.2.1), some (.int s5.2.2)]) (fun s8 => []) ?_ ?_
          ·
            refine qb_ifle hX 30 57 rfl (by decide) ?_ ?_
            ·
              exact qb_exit (fun σ h => qj_wk (ρ' := [some (.ref (qx_ad X this)), none, none, some (.int s5.1), some (.int s5.2.1), some (.int s5.2.2)]) (qw_s (qw_n (qw_n (qw_s (qw_s (qw_s (qw_0))))))) h)
            ·
              refine qb_iinc hX 31 1 (fun x9 => [some (.ref (qx_ad X this)), none, none, some (.int x9), some (.int s5.2.1), some (.int s5.2.2)]) rfl (by decide) (by decide) rfl (fun _ => rfl) (fun x9 => ?_)
              exact qb_exit (fun σ h => qj_wk (ρ' := [some (.ref (qx_ad X this)), none, none, some (.int x9), some (.int s5.2.1), some (.int s5.2.2)]) (qw_s (qw_n (qw_n (qw_s (qw_s (qw_s (qw_0))))))) h)
          · intro s8
            refine qb_iload hX 32 rfl rfl ?_
            refine qb_aload_n hX 33 rfl rfl ?_
            refine qb_iload hX 34 rfl rfl ?_
            refine qb_bipush hX 35 8 rfl (by decide) ?_
            refine qb_callI hX 36 rfl cv_Press_155 (jm_Press_cell (qk_GI hX) this s5.2.2 8 hthis ) (ci := 3) hthis ⟨rfl, rfl, rfl, by decide, by decide⟩ rfl (by exact Nat.le_of_ble_eq_true rfl) (fun x10 => ?_)
            refine qb_isub hX 37 rfl ?_
            refine qb_istoreL hX 38 (fun x11 => [some (.ref (qx_ad X this)), none, none, some (.int s8), some (.int x11), some (.int s5.2.2)]) rfl (by decide) (fun _ => rfl) (fun x11 => ?_)
            refine qb_iinc hX 39 1 (fun x12 => [some (.ref (qx_ad X this)), none, none, some (.int s8), some (.int x11), some (.int x12)]) rfl (by decide) (by decide) rfl (fun _ => rfl) (fun x12 => ?_)
            exact qb_exit (fun σ h => qj_goto hX 40 rfl (by decide) (qj_wk (ρ' := [some (.ref (qx_ad X this)), none, none, some (.int s8), some (.int x11), some (.int x12)]) (qw_s (qw_n (qw_n (qw_s (qw_s (qw_s (qw_0))))))) h))
    · intro s4
      refine qb_iload_n hX 41 rfl rfl ?_
      exact qb_iret hX 42 rfl hR (fun _ h => h)
  ·
    refine qb_bipush hX 7 (-2) rfl (by decide) ?_
    exact qb_iret hX 8 rfl hR (fun _ h => h)
theorem jm_Press_columnsOfNote {l : Launch} {G : qm_G} (hG : qm_GI G) (this : Nat) (p1 : Int32) (hthis : (qm_kd this).1 = 13) : qm_MI l G jy_Press_columnsOfNote prog_5_method_20_code 6 (some .int) 3 66 [.ref (G.1 this), .int p1] (jf_Press_columnsOfNote this p1) :=
  qm_metI (by decide +kernel) jd_Press_columnsOfNote (fun v hv => by simp only [List.mem_cons, List.not_mem_nil, or_false] at hv; rcases hv with rfl | rfl <;> rfl) (by exact Nat.le_of_ble_eq_true rfl) hG rfl (fun X hl hg hX r0 σ0 hR => by subst hl; subst hg; exact jb_Press_columnsOfNote hX hR this p1 hthis)
def jl_Run_takes : List qm_I := [(0, .iload_n 0, 1, 1), (1, .ifCond .lt 31, 3, 4), (4, .iload_n 0, 1, 5), (5, .bipush 8, 2, 7), (7, .if_icmp .ge 25, 3, 10), (10, .iload_n 1, 1, 11), (11, .getstatic 21, 3, 14), (14, .iload_n 0, 1, 15), (15, .iaload, 1, 16), (16, .if_icmp .lt 16, 3, 19), (19, .iload_n 1, 1, 20), (20, .getstatic 24, 3, 23), (23, .iload_n 0, 1, 24), (24, .iaload, 1, 25), (25, .if_icmp .gt 7, 3, 28), (28, .iconst 1, 1, 29), (29, .goto 4, 3, 32), (32, .iconst 0, 1, 33), (33, .ireturn, 1, 34)]
theorem jd_Run_takes : qm_D prog_6_method_2_code jl_Run_takes := qm_D_of (by decide +kernel)
noncomputable def jf_Run_takes (p1 : Int32) (p2 : Int32) : qm_M Int32 :=
  if p1 < 0 then
    mP 0
  else
    if 8 ≤ p1 then
      mP 0
    else
      mB (mLd 406 p1) fun x1 =>
      if p2 < x1 then
        mP 0
      else
        mB (mLd 407 p1) fun x2 =>
        if x2 < p2 then
          mP 0
        else
          mP 1
set_option maxRecDepth 20000 in
set_option maxHeartbeats 4000000 in
theorem jb_Run_takes {X : qm_X} (hX : qm_ok X qr_Run prog_6_method_2_code 2 0 0 jl_Run_takes) {r0 : Int32} {σ0 : qm_Mem} (hR : qm_RI X r0 σ0 .boolean) (p1 : Int32) (p2 : Int32)  : qm_B X (jf_Run_takes p1 p2) 0 [some (.int p1), some (.int p2)] [] (fun r σ1 => r = r0 ∧ σ1 = σ0) := by
  unfold jf_Run_takes
  refine qb_iload_n hX 0 rfl rfl ?_
  refine qb_iflt hX 1 32 rfl (by decide) ?_ ?_
  ·
    refine qb_iconst hX 17 0 rfl (by decide) ?_
    exact qb_zret1 hX 18 rfl hR (by decide) (fun _ h => h)
  ·
    refine qb_iload_n hX 2 rfl rfl ?_
    refine qb_bipush hX 3 8 rfl (by decide) ?_
    refine qb_icge hX 4 32 rfl (by decide) ?_ ?_
    ·
      refine qb_iconst hX 17 0 rfl (by decide) ?_
      exact qb_zret1 hX 18 rfl hR (by decide) (fun _ h => h)
    ·
      refine qb_iload_n hX 5 rfl rfl ?_
      refine qb_getsN hX 6 (n := "SETTING_LEAST") 406 rfl (by decide +kernel) (by decide +kernel) ?_
      refine qb_iload_n hX 7 rfl rfl ?_
      refine qb_iald hX 8 rfl (rfl : (qm_kd 406).1 = 1) (fun x1 => ?_)
      refine qb_iclt hX 9 32 rfl (by decide) ?_ ?_
      ·
        refine qb_iconst hX 17 0 rfl (by decide) ?_
        exact qb_zret1 hX 18 rfl hR (by decide) (fun _ h => h)
      ·
        refine qb_iload_n hX 10 rfl rfl ?_
        refine qb_getsN hX 11 (n := "SETTING_MOST") 407 rfl (by decide +kernel) (by decide +kernel) ?_
        refine qb_iload_n hX 12 rfl rfl ?_
        refine qb_iald hX 13 rfl (rfl : (qm_kd 407).1 = 1) (fun x2 => ?_)
        refine qb_icgt hX 14 32 rfl (by decide) ?_ ?_
        ·
          refine qb_iconst hX 17 0 rfl (by decide) ?_
          exact qb_zret1 hX 18 rfl hR (by decide) (fun _ h => h)
        ·
          refine qb_iconst hX 15 1 rfl (by decide) ?_
          refine qb_goto hX 16 (tgt := 33) rfl (by decide) ?_
          exact qb_zret1 hX 18 rfl hR (by decide) (fun _ h => h)
theorem jm_Run_takes {l : Launch} {G : qm_G} (hG : qm_GI G) (p1 : Int32) (p2 : Int32)  : qm_MI l G jy_Run_takes prog_6_method_2_code 2 (some .boolean) 0 0 [.int p1, .int p2] (jf_Run_takes p1 p2) :=
  qm_metI (by decide +kernel) jd_Run_takes (fun v hv => by simp only [List.mem_cons, List.not_mem_nil, or_false] at hv; rcases hv with rfl | rfl <;> rfl) (by exact Nat.le_of_ble_eq_true rfl) hG rfl (fun X hl hg hX r0 σ0 hR => by subst hl; subst hg; exact jb_Run_takes hX hR p1 p2 )
def jl_Run_clear : List qm_I := [(0, .aload_n 0, 1, 1), (1, .iconst 0, 1, 2), (2, .putfield 27, 3, 5), (5, .iconst 0, 1, 6), (6, .istore_n 1, 1, 7), (7, .iload_n 1, 1, 8), (8, .bipush 8, 2, 10), (10, .if_icmp .ge 20, 3, 13), (13, .aload_n 0, 1, 14), (14, .getfield 11, 3, 17), (17, .iload_n 1, 1, 18), (18, .getstatic 31, 3, 21), (21, .iload_n 1, 1, 22), (22, .iaload, 1, 23), (23, .iastore, 1, 24), (24, .iinc 1 1, 3, 27), (27, .goto (-20), 3, 30), (30, .return_, 1, 31)]
theorem jd_Run_clear : qm_D prog_6_method_3_code jl_Run_clear := qm_D_of (by decide +kernel)
noncomputable def jf_Run_clear (this : Nat) : qm_M Unit :=
  mB (mPt this 0 0) fun _ =>
  mB (α := Unit) (
    mW (S := Int32) (α := Unit) (fun s2 =>
      if 8 ≤ s2 then
        mP (Sum.inr ())
      else
        mB (mLd 405 s2) fun x3 =>
        mB (mSt (qm_rf this 1) s2 x3) fun _ =>
        mB (mP (s2 + 1)) fun x4 =>
        mP (Sum.inl x4)) 0) fun s1 =>
  mP ()
set_option maxRecDepth 20000 in
set_option maxHeartbeats 4000000 in
theorem jb_Run_clear {X : qm_X} (hX : qm_ok X qr_Run prog_6_method_3_code 2 0 0 jl_Run_clear) {σ0 : qm_Mem} (hR : qm_RV X σ0) (this : Nat) (hthis : (qm_kd this).1 = 14) : qm_B X (jf_Run_clear this) 0 [some (.ref (qx_ad X this)), none] [] (fun _ σ1 => σ1 = σ0) := by
  unfold jf_Run_clear
  refine qb_aload_n hX 0 rfl rfl ?_
  refine qb_iconst hX 1 0 rfl (by decide) ?_
  refine qb_put hX 2 rfl fp_Run_27 hthis ?_
  refine qb_iconst hX 3 0 rfl (by decide) ?_
  refine qb_istore_n hX 4 ([some (.ref (qx_ad X this)), some (.int 0)]) rfl (by decide) rfl ?_
  refine qb_join 30 (fun s1 => [none, none]) (fun s1 => []) ?_ ?_
  ·
    refine qb_loopw (0) (fun s2 => [some (.ref (qx_ad X this)), some (.int s2)]) (qw_s (qw_s (qw_0))) (fun s2 => ?_)
    refine qb_iload_n hX 5 rfl rfl ?_
    refine qb_bipush hX 6 8 rfl (by decide) ?_
    refine qb_icge hX 7 30 rfl (by decide) ?_ ?_
    ·
      exact qb_exit (fun σ h => qj_wk (ρ' := [none, none]) (qw_n (qw_n (qw_0))) h)
    ·
      refine qb_aload_n hX 8 rfl rfl ?_
      refine qb_getR hX 9 rfl fl_Run_11 hthis rfl ?_
      refine qb_iload_n hX 10 rfl rfl ?_
      refine qb_getsN hX 11 (n := "SETTING_FIRST") 405 rfl (by decide +kernel) (by decide +kernel) ?_
      refine qb_iload_n hX 12 rfl rfl ?_
      refine qb_iald hX 13 rfl (rfl : (qm_kd 405).1 = 1) (fun x3 => ?_)
      refine qb_iast hX 14 rfl (kf_Run_1 hthis) ?_
      refine qb_iinc hX 15 1 (fun x4 => [some (.ref (qx_ad X this)), some (.int x4)]) rfl (by decide) (by decide) rfl (fun _ => rfl) (fun x4 => ?_)
      exact qb_exit (fun σ h => qj_goto hX 16 rfl (by decide) (qj_wk (ρ' := [some (.ref (qx_ad X this)), some (.int x4)]) (qw_s (qw_s (qw_0))) h))
  · intro s1
    exact qb_vret hX 17 rfl hR (fun _ h => h)
theorem jm_Run_clear {l : Launch} {G : qm_G} (hG : qm_GI G) (this : Nat) (hthis : (qm_kd this).1 = 14) : qm_MV l G jy_Run_clear prog_6_method_3_code 2 0 0 [.ref (G.1 this)] (jf_Run_clear this) :=
  qm_metV (by decide +kernel) jd_Run_clear (fun v hv => by simp only [List.mem_cons, List.not_mem_nil, or_false] at hv; rcases hv with rfl <;> rfl) (by exact Nat.le_of_ble_eq_true rfl) hG (fun X hl hg hX σ0 hR => by subst hl; subst hg; exact jb_Run_clear hX hR this hthis)
def jl_Run_put : List qm_I := [(0, .iload_n 1, 1, 1), (1, .iload_n 2, 1, 2), (2, .invokestatic 34, 3, 5), (5, .ifCond .eq 10, 3, 8), (8, .aload_n 0, 1, 9), (9, .getfield 11, 3, 12), (12, .iload_n 1, 1, 13), (13, .iload_n 2, 1, 14), (14, .iastore, 1, 15), (15, .return_, 1, 16)]
theorem jd_Run_put : qm_D prog_6_method_6_code jl_Run_put := qm_D_of (by decide +kernel)
noncomputable def jf_Run_put (this : Nat) (p1 : Int32) (p2 : Int32) : qm_M Unit :=
  mB (jf_Run_takes p1 p2) fun x1 =>
  if x1 = 0 then
    mP ()
  else
    mB (mSt (qm_rf this 1) p1 p2) fun _ =>
    mP ()
set_option maxRecDepth 20000 in
set_option maxHeartbeats 4000000 in
theorem jb_Run_put {X : qm_X} (hX : qm_ok X qr_Run prog_6_method_6_code 3 1 21 jl_Run_put) {σ0 : qm_Mem} (hR : qm_RV X σ0) (this : Nat) (p1 : Int32) (p2 : Int32) (hthis : (qm_kd this).1 = 14) : qm_B X (jf_Run_put this p1 p2) 0 [some (.ref (qx_ad X this)), some (.int p1), some (.int p2)] [] (fun _ σ1 => σ1 = σ0) := by
  unfold jf_Run_put
  refine qb_iload_n hX 0 rfl rfl ?_
  refine qb_iload_n hX 1 rfl rfl ?_
  refine qb_calSI hX 2 rfl cv_Run_34 (jm_Run_takes (qk_GI hX) p1 p2 ) ⟨rfl, by decide, by decide⟩ rfl (by exact Nat.le_of_ble_eq_true rfl) (fun x1 => ?_)
  refine qb_ifeq hX 3 15 rfl (by decide) ?_ ?_
  ·
    exact qb_vret hX 9 rfl hR (fun _ h => h)
  ·
    refine qb_aload_n hX 4 rfl rfl ?_
    refine qb_getR hX 5 rfl fl_Run_11 hthis rfl ?_
    refine qb_iload_n hX 6 rfl rfl ?_
    refine qb_iload_n hX 7 rfl rfl ?_
    refine qb_iast hX 8 rfl (kf_Run_1 hthis) ?_
    exact qb_vret hX 9 rfl hR (fun _ h => h)
theorem jm_Run_put {l : Launch} {G : qm_G} (hG : qm_GI G) (this : Nat) (p1 : Int32) (p2 : Int32) (hthis : (qm_kd this).1 = 14) : qm_MV l G jy_Run_put prog_6_method_6_code 3 1 21 [.ref (G.1 this), .int p1, .int p2] (jf_Run_put this p1 p2) :=
  qm_metV (by decide +kernel) jd_Run_put (fun v hv => by simp only [List.mem_cons, List.not_mem_nil, or_false] at hv; rcases hv with rfl | rfl | rfl <;> rfl) (by exact Nat.le_of_ble_eq_true rfl) hG (fun X hl hg hX σ0 hR => by subst hl; subst hg; exact jb_Run_put hX hR this p1 p2 hthis)
def jl_Run_has : List qm_I := [(0, .iload_n 1, 1, 1), (1, .ifCond .lt 15, 3, 4), (4, .iload_n 1, 1, 5), (5, .aload_n 0, 1, 6), (6, .getfield 27, 3, 9), (9, .if_icmp .ge 7, 3, 12), (12, .iconst 1, 1, 13), (13, .goto 4, 3, 16), (16, .iconst 0, 1, 17), (17, .ireturn, 1, 18)]
theorem jd_Run_has : qm_D prog_6_method_7_code jl_Run_has := qm_D_of (by decide +kernel)
noncomputable def jf_Run_has (this : Nat) (p1 : Int32) : qm_M Int32 :=
  if p1 < 0 then
    mP 0
  else
    mB (mGt this 0) fun x1 =>
    if x1 ≤ p1 then
      mP 0
    else
      mP 1
set_option maxRecDepth 20000 in
set_option maxHeartbeats 4000000 in
theorem jb_Run_has {X : qm_X} (hX : qm_ok X qr_Run prog_6_method_7_code 2 0 0 jl_Run_has) {r0 : Int32} {σ0 : qm_Mem} (hR : qm_RI X r0 σ0 .boolean) (this : Nat) (p1 : Int32) (hthis : (qm_kd this).1 = 14) : qm_B X (jf_Run_has this p1) 0 [some (.ref (qx_ad X this)), some (.int p1)] [] (fun r σ1 => r = r0 ∧ σ1 = σ0) := by
  unfold jf_Run_has
  refine qb_iload_n hX 0 rfl rfl ?_
  refine qb_iflt hX 1 16 rfl (by decide) ?_ ?_
  ·
    refine qb_iconst hX 8 0 rfl (by decide) ?_
    exact qb_zret1 hX 9 rfl hR (by decide) (fun _ h => h)
  ·
    refine qb_iload_n hX 2 rfl rfl ?_
    refine qb_aload_n hX 3 rfl rfl ?_
    refine qb_get hX 4 rfl fl_Run_27 hthis rfl (fun x1 => ?_)
    refine qb_icge hX 5 16 rfl (by decide) ?_ ?_
    ·
      refine qb_iconst hX 8 0 rfl (by decide) ?_
      exact qb_zret1 hX 9 rfl hR (by decide) (fun _ h => h)
    ·
      refine qb_iconst hX 6 1 rfl (by decide) ?_
      refine qb_goto hX 7 (tgt := 17) rfl (by decide) ?_
      exact qb_zret1 hX 9 rfl hR (by decide) (fun _ h => h)
theorem jm_Run_has {l : Launch} {G : qm_G} (hG : qm_GI G) (this : Nat) (p1 : Int32) (hthis : (qm_kd this).1 = 14) : qm_MI l G jy_Run_has prog_6_method_7_code 2 (some .boolean) 0 0 [.ref (G.1 this), .int p1] (jf_Run_has this p1) :=
  qm_metI (by decide +kernel) jd_Run_has (fun v hv => by simp only [List.mem_cons, List.not_mem_nil, or_false] at hv; rcases hv with rfl | rfl <;> rfl) (by exact Nat.le_of_ble_eq_true rfl) hG rfl (fun X hl hg hX r0 σ0 hR => by subst hl; subst hg; exact jb_Run_has hX hR this p1 hthis)
def jl_Run_hasPieces : List qm_I := [(0, .aload_n 0, 1, 1), (1, .iload_n 1, 1, 2), (2, .invokevirtual 38, 3, 5), (5, .ifCond .eq 17, 3, 8), (8, .aload_n 0, 1, 9), (9, .iload_n 1, 1, 10), (10, .iconst 0, 1, 11), (11, .invokevirtual 42, 3, 14), (14, .iconst 4, 1, 15), (15, .if_icmp .eq 7, 3, 18), (18, .iconst 1, 1, 19), (19, .goto 4, 3, 22), (22, .iconst 0, 1, 23), (23, .ireturn, 1, 24)]
theorem jd_Run_hasPieces : qm_D prog_6_method_8_code jl_Run_hasPieces := qm_D_of (by decide +kernel)
noncomputable def jf_Run_hasPieces (this : Nat) (p1 : Int32) : qm_M Int32 :=
  mB (jf_Run_has this p1) fun x1 =>
  if x1 = 0 then
    mP 0
  else
    mB (jf_Run_cell this p1 0) fun x2 =>
    if x2 = 4 then
      mP 0
    else
      mP 1
set_option maxRecDepth 20000 in
set_option maxHeartbeats 4000000 in
theorem jb_Run_hasPieces {X : qm_X} (hX : qm_ok X qr_Run prog_6_method_8_code 2 1 22 jl_Run_hasPieces) {r0 : Int32} {σ0 : qm_Mem} (hR : qm_RI X r0 σ0 .boolean) (this : Nat) (p1 : Int32) (hthis : (qm_kd this).1 = 14) : qm_B X (jf_Run_hasPieces this p1) 0 [some (.ref (qx_ad X this)), some (.int p1)] [] (fun r σ1 => r = r0 ∧ σ1 = σ0) := by
  unfold jf_Run_hasPieces
  refine qb_aload_n hX 0 rfl rfl ?_
  refine qb_iload_n hX 1 rfl rfl ?_
  refine qb_callI hX 2 rfl cv_Run_38 (jm_Run_has (qk_GI hX) this p1 hthis ) (ci := 4) hthis ⟨rfl, rfl, rfl, by decide, by decide⟩ rfl (by exact Nat.le_of_ble_eq_true rfl) (fun x1 => ?_)
  refine qb_ifeq hX 3 22 rfl (by decide) ?_ ?_
  ·
    refine qb_iconst hX 12 0 rfl (by decide) ?_
    exact qb_zret1 hX 13 rfl hR (by decide) (fun _ h => h)
  ·
    refine qb_aload_n hX 4 rfl rfl ?_
    refine qb_iload_n hX 5 rfl rfl ?_
    refine qb_iconst hX 6 0 rfl (by decide) ?_
    refine qb_callI hX 7 rfl cv_Run_42 (jm_Run_cell (qk_GI hX) this p1 0 hthis ) (ci := 4) hthis ⟨rfl, rfl, rfl, by decide, by decide⟩ rfl (by exact Nat.le_of_ble_eq_true rfl) (fun x2 => ?_)
    refine qb_iconst hX 8 4 rfl (by decide) ?_
    refine qb_iceq hX 9 22 rfl (by decide) ?_ ?_
    ·
      refine qb_iconst hX 12 0 rfl (by decide) ?_
      exact qb_zret1 hX 13 rfl hR (by decide) (fun _ h => h)
    ·
      refine qb_iconst hX 10 1 rfl (by decide) ?_
      refine qb_goto hX 11 (tgt := 23) rfl (by decide) ?_
      exact qb_zret1 hX 13 rfl hR (by decide) (fun _ h => h)
theorem jm_Run_hasPieces {l : Launch} {G : qm_G} (hG : qm_GI G) (this : Nat) (p1 : Int32) (hthis : (qm_kd this).1 = 14) : qm_MI l G jy_Run_hasPieces prog_6_method_8_code 2 (some .boolean) 1 22 [.ref (G.1 this), .int p1] (jf_Run_hasPieces this p1) :=
  qm_metI (by decide +kernel) jd_Run_hasPieces (fun v hv => by simp only [List.mem_cons, List.not_mem_nil, or_false] at hv; rcases hv with rfl | rfl <;> rfl) (by exact Nat.le_of_ble_eq_true rfl) hG rfl (fun X hl hg hX r0 σ0 hR => by subst hl; subst hg; exact jb_Run_hasPieces hX hR this p1 hthis)
def jl_Run_putCell : List qm_I := [(0, .iload_n 1, 1, 1), (1, .ifCond .lt 31, 3, 4), (4, .iload_n 1, 1, 5), (5, .bipush 16, 2, 7), (7, .if_icmp .ge 25, 3, 10), (10, .iload_n 2, 1, 11), (11, .ifCond .lt 21, 3, 14), (14, .iload_n 2, 1, 15), (15, .bipush 16, 2, 17), (17, .if_icmp .ge 15, 3, 20), (20, .aload_n 0, 1, 21), (21, .getfield 15, 3, 24), (24, .iload_n 1, 1, 25), (25, .bipush 16, 2, 27), (27, .imul, 1, 28), (28, .iload_n 2, 1, 29), (29, .iadd, 1, 30), (30, .iload_n 3, 1, 31), (31, .iastore, 1, 32), (32, .return_, 1, 33)]
theorem jd_Run_putCell : qm_D prog_6_method_10_code jl_Run_putCell := qm_D_of (by decide +kernel)
noncomputable def jf_Run_putCell (this : Nat) (p1 : Int32) (p2 : Int32) (p3 : Int32) : qm_M Unit :=
  if p1 < 0 then
    mP ()
  else
    if 16 ≤ p1 then
      mP ()
    else
      if p2 < 0 then
        mP ()
      else
        if 16 ≤ p2 then
          mP ()
        else
          mB (mSt (qm_rf this 2) ((p1 * 16) + p2) p3) fun _ =>
          mP ()
set_option maxRecDepth 20000 in
set_option maxHeartbeats 4000000 in
theorem jb_Run_putCell {X : qm_X} (hX : qm_ok X qr_Run prog_6_method_10_code 4 0 0 jl_Run_putCell) {σ0 : qm_Mem} (hR : qm_RV X σ0) (this : Nat) (p1 : Int32) (p2 : Int32) (p3 : Int32) (hthis : (qm_kd this).1 = 14) : qm_B X (jf_Run_putCell this p1 p2 p3) 0 [some (.ref (qx_ad X this)), some (.int p1), some (.int p2), some (.int p3)] [] (fun _ σ1 => σ1 = σ0) := by
  unfold jf_Run_putCell
  refine qb_iload_n hX 0 rfl rfl ?_
  refine qb_iflt hX 1 32 rfl (by decide) ?_ ?_
  ·
    exact qb_vret hX 19 rfl hR (fun _ h => h)
  ·
    refine qb_iload_n hX 2 rfl rfl ?_
    refine qb_bipush hX 3 16 rfl (by decide) ?_
    refine qb_icge hX 4 32 rfl (by decide) ?_ ?_
    ·
      exact qb_vret hX 19 rfl hR (fun _ h => h)
    ·
      refine qb_iload_n hX 5 rfl rfl ?_
      refine qb_iflt hX 6 32 rfl (by decide) ?_ ?_
      ·
        exact qb_vret hX 19 rfl hR (fun _ h => h)
      ·
        refine qb_iload_n hX 7 rfl rfl ?_
        refine qb_bipush hX 8 16 rfl (by decide) ?_
        refine qb_icge hX 9 32 rfl (by decide) ?_ ?_
        ·
          exact qb_vret hX 19 rfl hR (fun _ h => h)
        ·
          refine qb_aload_n hX 10 rfl rfl ?_
          refine qb_getR hX 11 rfl fl_Run_15 hthis rfl ?_
          refine qb_iload_n hX 12 rfl rfl ?_
          refine qb_bipush hX 13 16 rfl (by decide) ?_
          refine qb_imul hX 14 rfl ?_
          refine qb_iload_n hX 15 rfl rfl ?_
          refine qb_iadd hX 16 rfl ?_
          refine qb_iload_n hX 17 rfl rfl ?_
          refine qb_iast hX 18 rfl (kf_Run_2 hthis) ?_
          exact qb_vret hX 19 rfl hR (fun _ h => h)
theorem jm_Run_putCell {l : Launch} {G : qm_G} (hG : qm_GI G) (this : Nat) (p1 : Int32) (p2 : Int32) (p3 : Int32) (hthis : (qm_kd this).1 = 14) : qm_MV l G jy_Run_putCell prog_6_method_10_code 4 0 0 [.ref (G.1 this), .int p1, .int p2, .int p3] (jf_Run_putCell this p1 p2 p3) :=
  qm_metV (by decide +kernel) jd_Run_putCell (fun v hv => by simp only [List.mem_cons, List.not_mem_nil, or_false] at hv; rcases hv with rfl | rfl | rfl | rfl <;> rfl) (by exact Nat.le_of_ble_eq_true rfl) hG (fun X hl hg hX σ0 hR => by subst hl; subst hg; exact jb_Run_putCell hX hR this p1 p2 p3 hthis)
def jl_Run_allPieces : List qm_I := [(0, .iconst 0, 1, 1), (1, .istore_n 1, 1, 2), (2, .iconst 0, 1, 3), (3, .istore_n 2, 1, 4), (4, .iload_n 2, 1, 5), (5, .aload_n 0, 1, 6), (6, .getfield 27, 3, 9), (9, .if_icmp .ge 18, 3, 12), (12, .iload_n 1, 1, 13), (13, .aload_n 0, 1, 14), (14, .iload_n 2, 1, 15), (15, .iconst 1, 1, 16), (16, .invokevirtual 42, 3, 19), (19, .iadd, 1, 20), (20, .istore_n 1, 1, 21), (21, .iinc 2 1, 3, 24), (24, .goto (-20), 3, 27), (27, .iload_n 1, 1, 28), (28, .ireturn, 1, 29)]
theorem jd_Run_allPieces : qm_D prog_6_method_11_code jl_Run_allPieces := qm_D_of (by decide +kernel)
noncomputable def jf_Run_allPieces (this : Nat) : qm_M Int32 :=
  mB (α := Int32) (
    mW (S := Int32 × Int32) (α := Int32) (fun s2 =>
      mB (mGt this 0) fun x3 =>
      if x3 ≤ s2.2 then
        mP (Sum.inr s2.1)
      else
        mB (jf_Run_cell this s2.2 1) fun x4 =>
        mB (mP (s2.1 + x4)) fun x5 =>
        mB (mP (s2.2 + 1)) fun x6 =>
        mP (Sum.inl (x5, x6))) (0, 0)) fun s1 =>
  mP s1
set_option maxRecDepth 20000 in
set_option maxHeartbeats 4000000 in
theorem jb_Run_allPieces {X : qm_X} (hX : qm_ok X qr_Run prog_6_method_11_code 3 1 22 jl_Run_allPieces) {r0 : Int32} {σ0 : qm_Mem} (hR : qm_RI X r0 σ0 .int) (this : Nat) (hthis : (qm_kd this).1 = 14) : qm_B X (jf_Run_allPieces this) 0 [some (.ref (qx_ad X this)), none, none] [] (fun r σ1 => r = r0 ∧ σ1 = σ0) := by
  unfold jf_Run_allPieces
  refine qb_iconst hX 0 0 rfl (by decide) ?_
  refine qb_istore_n hX 1 ([some (.ref (qx_ad X this)), some (.int 0), none]) rfl (by decide) rfl ?_
  refine qb_iconst hX 2 0 rfl (by decide) ?_
  refine qb_istore_n hX 3 ([some (.ref (qx_ad X this)), some (.int 0), some (.int 0)]) rfl (by decide) rfl ?_
  refine qb_join 27 (fun s1 => [none, some (.int s1), none]) (fun s1 => []) ?_ ?_
  ·
    refine qb_loopw ((0, 0)) (fun s2 => [some (.ref (qx_ad X this)), some (.int s2.1), some (.int s2.2)]) (qw_s (qw_s (qw_s (qw_0)))) (fun s2 => ?_)
    refine qb_iload_n hX 4 rfl rfl ?_
    refine qb_aload_n hX 5 rfl rfl ?_
    refine qb_get hX 6 rfl fl_Run_27 hthis rfl (fun x3 => ?_)
    refine qb_icge hX 7 27 rfl (by decide) ?_ ?_
    ·
      exact qb_exit (fun σ h => qj_wk (ρ' := [none, some (.int s2.1), none]) (qw_n (qw_s (qw_n (qw_0)))) h)
    ·
      refine qb_iload_n hX 8 rfl rfl ?_
      refine qb_aload_n hX 9 rfl rfl ?_
      refine qb_iload_n hX 10 rfl rfl ?_
      refine qb_iconst hX 11 1 rfl (by decide) ?_
      refine qb_callI hX 12 rfl cv_Run_42 (jm_Run_cell (qk_GI hX) this s2.2 1 hthis ) (ci := 4) hthis ⟨rfl, rfl, rfl, by decide, by decide⟩ rfl (by exact Nat.le_of_ble_eq_true rfl) (fun x4 => ?_)
      refine qb_iadd hX 13 rfl ?_
      refine qb_istore_nL hX 14 (fun x5 => [some (.ref (qx_ad X this)), some (.int x5), some (.int s2.2)]) rfl (by decide) (fun _ => rfl) (fun x5 => ?_)
      refine qb_iinc hX 15 1 (fun x6 => [some (.ref (qx_ad X this)), some (.int x5), some (.int x6)]) rfl (by decide) (by decide) rfl (fun _ => rfl) (fun x6 => ?_)
      exact qb_exit (fun σ h => qj_goto hX 16 rfl (by decide) (qj_wk (ρ' := [some (.ref (qx_ad X this)), some (.int x5), some (.int x6)]) (qw_s (qw_s (qw_s (qw_0)))) h))
  · intro s1
    refine qb_iload_n hX 17 rfl rfl ?_
    exact qb_iret hX 18 rfl hR (fun _ h => h)
theorem jm_Run_allPieces {l : Launch} {G : qm_G} (hG : qm_GI G) (this : Nat) (hthis : (qm_kd this).1 = 14) : qm_MI l G jy_Run_allPieces prog_6_method_11_code 3 (some .int) 1 22 [.ref (G.1 this)] (jf_Run_allPieces this) :=
  qm_metI (by decide +kernel) jd_Run_allPieces (fun v hv => by simp only [List.mem_cons, List.not_mem_nil, or_false] at hv; rcases hv with rfl <;> rfl) (by exact Nat.le_of_ble_eq_true rfl) hG rfl (fun X hl hg hX r0 σ0 hR => by subst hl; subst hg; exact jb_Run_allPieces hX hR this hthis)
def jl_Run_add : List qm_I := [(0, .aload_n 0, 1, 1), (1, .getfield 27, 3, 4), (4, .istore_n 2, 1, 5), (5, .iload_n 2, 1, 6), (6, .bipush 16, 2, 8), (8, .if_icmp .ge 41, 3, 11), (11, .iconst 0, 1, 12), (12, .istore_n 3, 1, 13), (13, .iload_n 3, 1, 14), (14, .bipush 16, 2, 16), (16, .if_icmp .ge 16, 3, 19), (19, .aload_n 0, 1, 20), (20, .iload_n 2, 1, 21), (21, .iload_n 3, 1, 22), (22, .iconst 0, 1, 23), (23, .invokevirtual 46, 3, 26), (26, .iinc 3 1, 3, 29), (29, .goto (-16), 3, 32), (32, .aload_n 0, 1, 33), (33, .iload_n 2, 1, 34), (34, .iconst 0, 1, 35), (35, .iload_n 1, 1, 36), (36, .invokevirtual 46, 3, 39), (39, .aload_n 0, 1, 40), (40, .dup, 1, 41), (41, .getfield 27, 3, 44), (44, .iconst 1, 1, 45), (45, .iadd, 1, 46), (46, .putfield 27, 3, 49), (49, .iload_n 2, 1, 50), (50, .ireturn, 1, 51)]
theorem jd_Run_add : qm_D prog_6_method_12_code jl_Run_add := qm_D_of (by decide +kernel)
noncomputable def jf_Run_add (this : Nat) (p1 : Int32) : qm_M Int32 :=
  mB (mGt this 0) fun x1 =>
  if 16 ≤ x1 then
    mP x1
  else
    mB (α := Unit) (
      mW (S := Int32) (α := Unit) (fun s3 =>
        if 16 ≤ s3 then
          mP (Sum.inr ())
        else
          mB (jf_Run_putCell this x1 s3 0) fun _ =>
          mB (mP (s3 + 1)) fun x4 =>
          mP (Sum.inl x4)) 0) fun s2 =>
    mB (jf_Run_putCell this x1 0 p1) fun _ =>
    mB (mGt this 0) fun x5 =>
    mB (mPt this 0 (x5 + 1)) fun _ =>
    mP x1
set_option maxRecDepth 20000 in
set_option maxHeartbeats 4000000 in
theorem jb_Run_add {X : qm_X} (hX : qm_ok X qr_Run prog_6_method_12_code 4 1 23 jl_Run_add) {r0 : Int32} {σ0 : qm_Mem} (hR : qm_RI X r0 σ0 .int) (this : Nat) (p1 : Int32) (hthis : (qm_kd this).1 = 14) : qm_B X (jf_Run_add this p1) 0 [some (.ref (qx_ad X this)), some (.int p1), none, none] [] (fun r σ1 => r = r0 ∧ σ1 = σ0) := by
  unfold jf_Run_add
  refine qb_aload_n hX 0 rfl rfl ?_
  refine qb_get hX 1 rfl fl_Run_27 hthis rfl (fun x1 => ?_)
  refine qb_istore_n hX 2 ([some (.ref (qx_ad X this)), some (.int p1), some (.int x1), none]) rfl (by decide) rfl ?_
  refine qb_iload_n hX 3 rfl rfl ?_
  refine qb_bipush hX 4 16 rfl (by decide) ?_
  refine qb_icge hX 5 49 rfl (by decide) ?_ ?_
  ·
    refine qb_iload_n hX 29 rfl rfl ?_
    exact qb_iret hX 30 rfl hR (fun _ h => h)
  ·
    refine qb_iconst hX 6 0 rfl (by decide) ?_
    refine qb_istore_n hX 7 ([some (.ref (qx_ad X this)), some (.int p1), some (.int x1), some (.int 0)]) rfl (by decide) rfl ?_
    refine qb_join 32 (fun s2 => [some (.ref (qx_ad X this)), some (.int p1), some (.int x1), none]) (fun s2 => []) ?_ ?_
    ·
      refine qb_loopw (0) (fun s3 => [some (.ref (qx_ad X this)), some (.int p1), some (.int x1), some (.int s3)]) (qw_s (qw_s (qw_s (qw_s (qw_0))))) (fun s3 => ?_)
      refine qb_iload_n hX 8 rfl rfl ?_
      refine qb_bipush hX 9 16 rfl (by decide) ?_
      refine qb_icge hX 10 32 rfl (by decide) ?_ ?_
      ·
        exact qb_exit (fun σ h => qj_wk (ρ' := [some (.ref (qx_ad X this)), some (.int p1), some (.int x1), none]) (qw_s (qw_s (qw_s (qw_n (qw_0))))) h)
      ·
        refine qb_aload_n hX 11 rfl rfl ?_
        refine qb_iload_n hX 12 rfl rfl ?_
        refine qb_iload_n hX 13 rfl rfl ?_
        refine qb_iconst hX 14 0 rfl (by decide) ?_
        refine qb_callV hX 15 rfl cv_Run_46 (jm_Run_putCell (qk_GI hX) this x1 s3 0 hthis ) (ci := 4) hthis ⟨rfl, rfl, rfl, by decide, by decide⟩ rfl (by exact Nat.le_of_ble_eq_true rfl) ?_
        refine qb_iinc hX 16 1 (fun x4 => [some (.ref (qx_ad X this)), some (.int p1), some (.int x1), some (.int x4)]) rfl (by decide) (by decide) rfl (fun _ => rfl) (fun x4 => ?_)
        exact qb_exit (fun σ h => qj_goto hX 17 rfl (by decide) (qj_wk (ρ' := [some (.ref (qx_ad X this)), some (.int p1), some (.int x1), some (.int x4)]) (qw_s (qw_s (qw_s (qw_s (qw_0))))) h))
    · intro s2
      refine qb_aload_n hX 18 rfl rfl ?_
      refine qb_iload_n hX 19 rfl rfl ?_
      refine qb_iconst hX 20 0 rfl (by decide) ?_
      refine qb_iload_n hX 21 rfl rfl ?_
      refine qb_callV hX 22 rfl cv_Run_46 (jm_Run_putCell (qk_GI hX) this x1 0 p1 hthis ) (ci := 4) hthis ⟨rfl, rfl, rfl, by decide, by decide⟩ rfl (by exact Nat.le_of_ble_eq_true rfl) ?_
      refine qb_aload_n hX 23 rfl rfl ?_
      refine qb_dup hX 24 rfl rfl ?_
      refine qb_get hX 25 rfl fl_Run_27 hthis rfl (fun x5 => ?_)
      refine qb_iconst hX 26 1 rfl (by decide) ?_
      refine qb_iadd hX 27 rfl ?_
      refine qb_put hX 28 rfl fp_Run_27 hthis ?_
      refine qb_iload_n hX 29 rfl rfl ?_
      exact qb_iret hX 30 rfl hR (fun _ h => h)
theorem jm_Run_add {l : Launch} {G : qm_G} (hG : qm_GI G) (this : Nat) (p1 : Int32) (hthis : (qm_kd this).1 = 14) : qm_MI l G jy_Run_add prog_6_method_12_code 4 (some .int) 1 23 [.ref (G.1 this), .int p1] (jf_Run_add this p1) :=
  qm_metI (by decide +kernel) jd_Run_add (fun v hv => by simp only [List.mem_cons, List.not_mem_nil, or_false] at hv; rcases hv with rfl | rfl <;> rfl) (by exact Nat.le_of_ble_eq_true rfl) hG rfl (fun X hl hg hX r0 σ0 hR => by subst hl; subst hg; exact jb_Run_add hX hR this p1 hthis)
def jl_Run_exchange : List qm_I := [(0, .iconst 0, 1, 1), (1, .istore_n 3, 1, 2), (2, .iload_n 3, 1, 3), (3, .bipush 16, 2, 5), (5, .if_icmp .ge 37, 3, 8), (8, .aload_n 0, 1, 9), (9, .iload_n 1, 1, 10), (10, .iload_n 3, 1, 11), (11, .invokevirtual 42, 3, 14), (14, .istore 4, 2, 16), (16, .aload_n 0, 1, 17), (17, .iload_n 1, 1, 18), (18, .iload_n 3, 1, 19), (19, .aload_n 0, 1, 20), (20, .iload_n 2, 1, 21), (21, .iload_n 3, 1, 22), (22, .invokevirtual 42, 3, 25), (25, .invokevirtual 46, 3, 28), (28, .aload_n 0, 1, 29), (29, .iload_n 2, 1, 30), (30, .iload_n 3, 1, 31), (31, .iload 4, 2, 33), (33, .invokevirtual 46, 3, 36), (36, .iinc 3 1, 3, 39), (39, .goto (-37), 3, 42), (42, .return_, 1, 43)]
theorem jd_Run_exchange : qm_D prog_6_method_13_code jl_Run_exchange := qm_D_of (by decide +kernel)
noncomputable def jf_Run_exchange (this : Nat) (p1 : Int32) (p2 : Int32) : qm_M Unit :=
  mB (α := Unit) (
    mW (S := Int32) (α := Unit) (fun s2 =>
      if 16 ≤ s2 then
        mP (Sum.inr ())
      else
        mB (jf_Run_cell this p1 s2) fun x3 =>
        mB (jf_Run_cell this p2 s2) fun x4 =>
        mB (jf_Run_putCell this p1 s2 x4) fun _ =>
        mB (jf_Run_putCell this p2 s2 x3) fun _ =>
        mB (mP (s2 + 1)) fun x5 =>
        mP (Sum.inl x5)) 0) fun s1 =>
  mP ()
set_option maxRecDepth 20000 in
set_option maxHeartbeats 4000000 in
theorem jb_Run_exchange {X : qm_X} (hX : qm_ok X qr_Run prog_6_method_13_code 5 1 23 jl_Run_exchange) {σ0 : qm_Mem} (hR : qm_RV X σ0) (this : Nat) (p1 : Int32) (p2 : Int32) (hthis : (qm_kd this).1 = 14) : qm_B X (jf_Run_exchange this p1 p2) 0 [some (.ref (qx_ad X this)), some (.int p1), some (.int p2), none, none] [] (fun _ σ1 => σ1 = σ0) := by
  unfold jf_Run_exchange
  refine qb_iconst hX 0 0 rfl (by decide) ?_
  refine qb_istore_n hX 1 ([some (.ref (qx_ad X this)), some (.int p1), some (.int p2), some (.int 0), none]) rfl (by decide) rfl ?_
  refine qb_join 42 (fun s1 => [none, none, none, none, none]) (fun s1 => []) ?_ ?_
  ·
    refine qb_loopw (0) (fun s2 => [some (.ref (qx_ad X this)), some (.int p1), some (.int p2), some (.int s2), none]) (qw_s (qw_s (qw_s (qw_s (qw_n (qw_0)))))) (fun s2 => ?_)
    refine qb_iload_n hX 2 rfl rfl ?_
    refine qb_bipush hX 3 16 rfl (by decide) ?_
    refine qb_icge hX 4 42 rfl (by decide) ?_ ?_
    ·
      exact qb_exit (fun σ h => qj_wk (ρ' := [none, none, none, none, none]) (qw_n (qw_n (qw_n (qw_n (qw_n (qw_0)))))) h)
    ·
      refine qb_aload_n hX 5 rfl rfl ?_
      refine qb_iload_n hX 6 rfl rfl ?_
      refine qb_iload_n hX 7 rfl rfl ?_
      refine qb_callI hX 8 rfl cv_Run_42 (jm_Run_cell (qk_GI hX) this p1 s2 hthis ) (ci := 4) hthis ⟨rfl, rfl, rfl, by decide, by decide⟩ rfl (by exact Nat.le_of_ble_eq_true rfl) (fun x3 => ?_)
      refine qb_istore hX 9 ([some (.ref (qx_ad X this)), some (.int p1), some (.int p2), some (.int s2), some (.int x3)]) rfl (by decide) rfl ?_
      refine qb_aload_n hX 10 rfl rfl ?_
      refine qb_iload_n hX 11 rfl rfl ?_
      refine qb_iload_n hX 12 rfl rfl ?_
      refine qb_aload_n hX 13 rfl rfl ?_
      refine qb_iload_n hX 14 rfl rfl ?_
      refine qb_iload_n hX 15 rfl rfl ?_
      refine qb_callI hX 16 rfl cv_Run_42 (jm_Run_cell (qk_GI hX) this p2 s2 hthis ) (ci := 4) hthis ⟨rfl, rfl, rfl, by decide, by decide⟩ rfl (by exact Nat.le_of_ble_eq_true rfl) (fun x4 => ?_)
      refine qb_callV hX 17 rfl cv_Run_46 (jm_Run_putCell (qk_GI hX) this p1 s2 x4 hthis ) (ci := 4) hthis ⟨rfl, rfl, rfl, by decide, by decide⟩ rfl (by exact Nat.le_of_ble_eq_true rfl) ?_
      refine qb_aload_n hX 18 rfl rfl ?_
      refine qb_iload_n hX 19 rfl rfl ?_
      refine qb_iload_n hX 20 rfl rfl ?_
      refine qb_iload hX 21 rfl rfl ?_
      refine qb_callV hX 22 rfl cv_Run_46 (jm_Run_putCell (qk_GI hX) this p2 s2 x3 hthis ) (ci := 4) hthis ⟨rfl, rfl, rfl, by decide, by decide⟩ rfl (by exact Nat.le_of_ble_eq_true rfl) ?_
      refine qb_iinc hX 23 1 (fun x5 => [some (.ref (qx_ad X this)), some (.int p1), some (.int p2), some (.int x5), some (.int x3)]) rfl (by decide) (by decide) rfl (fun _ => rfl) (fun x5 => ?_)
      exact qb_exit (fun σ h => qj_goto hX 24 rfl (by decide) (qj_wk (ρ' := [some (.ref (qx_ad X this)), some (.int p1), some (.int p2), some (.int x5), none]) (qw_s (qw_s (qw_s (qw_s (qw_n (qw_0)))))) h))
  · intro s1
    exact qb_vret hX 25 rfl hR (fun _ h => h)
theorem jm_Run_exchange {l : Launch} {G : qm_G} (hG : qm_GI G) (this : Nat) (p1 : Int32) (p2 : Int32) (hthis : (qm_kd this).1 = 14) : qm_MV l G jy_Run_exchange prog_6_method_13_code 5 1 23 [.ref (G.1 this), .int p1, .int p2] (jf_Run_exchange this p1 p2) :=
  qm_metV (by decide +kernel) jd_Run_exchange (fun v hv => by simp only [List.mem_cons, List.not_mem_nil, or_false] at hv; rcases hv with rfl | rfl | rfl <;> rfl) (by exact Nat.le_of_ble_eq_true rfl) hG (fun X hl hg hX σ0 hR => by subst hl; subst hg; exact jb_Run_exchange hX hR this p1 p2 hthis)
def jl_Run_copyCells : List qm_I := [(0, .iconst 0, 1, 1), (1, .istore_n 3, 1, 2), (2, .iload_n 3, 1, 3), (3, .bipush 16, 2, 5), (5, .if_icmp .ge 21, 3, 8), (8, .aload_n 0, 1, 9), (9, .iload_n 2, 1, 10), (10, .iload_n 3, 1, 11), (11, .aload_n 0, 1, 12), (12, .iload_n 1, 1, 13), (13, .iload_n 3, 1, 14), (14, .invokevirtual 42, 3, 17), (17, .invokevirtual 46, 3, 20), (20, .iinc 3 1, 3, 23), (23, .goto (-21), 3, 26), (26, .return_, 1, 27)]
theorem jd_Run_copyCells : qm_D prog_6_method_16_code jl_Run_copyCells := qm_D_of (by decide +kernel)
noncomputable def jf_Run_copyCells (this : Nat) (p1 : Int32) (p2 : Int32) : qm_M Unit :=
  mB (α := Unit) (
    mW (S := Int32) (α := Unit) (fun s2 =>
      if 16 ≤ s2 then
        mP (Sum.inr ())
      else
        mB (jf_Run_cell this p1 s2) fun x3 =>
        mB (jf_Run_putCell this p2 s2 x3) fun _ =>
        mB (mP (s2 + 1)) fun x4 =>
        mP (Sum.inl x4)) 0) fun s1 =>
  mP ()
set_option maxRecDepth 20000 in
set_option maxHeartbeats 4000000 in
theorem jb_Run_copyCells {X : qm_X} (hX : qm_ok X qr_Run prog_6_method_16_code 4 1 23 jl_Run_copyCells) {σ0 : qm_Mem} (hR : qm_RV X σ0) (this : Nat) (p1 : Int32) (p2 : Int32) (hthis : (qm_kd this).1 = 14) : qm_B X (jf_Run_copyCells this p1 p2) 0 [some (.ref (qx_ad X this)), some (.int p1), some (.int p2), none] [] (fun _ σ1 => σ1 = σ0) := by
  unfold jf_Run_copyCells
  refine qb_iconst hX 0 0 rfl (by decide) ?_
  refine qb_istore_n hX 1 ([some (.ref (qx_ad X this)), some (.int p1), some (.int p2), some (.int 0)]) rfl (by decide) rfl ?_
  refine qb_join 26 (fun s1 => [none, none, none, none]) (fun s1 => []) ?_ ?_
  ·
    refine qb_loopw (0) (fun s2 => [some (.ref (qx_ad X this)), some (.int p1), some (.int p2), some (.int s2)]) (qw_s (qw_s (qw_s (qw_s (qw_0))))) (fun s2 => ?_)
    refine qb_iload_n hX 2 rfl rfl ?_
    refine qb_bipush hX 3 16 rfl (by decide) ?_
    refine qb_icge hX 4 26 rfl (by decide) ?_ ?_
    ·
      exact qb_exit (fun σ h => qj_wk (ρ' := [none, none, none, none]) (qw_n (qw_n (qw_n (qw_n (qw_0))))) h)
    ·
      refine qb_aload_n hX 5 rfl rfl ?_
      refine qb_iload_n hX 6 rfl rfl ?_
      refine qb_iload_n hX 7 rfl rfl ?_
      refine qb_aload_n hX 8 rfl rfl ?_
      refine qb_iload_n hX 9 rfl rfl ?_
      refine qb_iload_n hX 10 rfl rfl ?_
      refine qb_callI hX 11 rfl cv_Run_42 (jm_Run_cell (qk_GI hX) this p1 s2 hthis ) (ci := 4) hthis ⟨rfl, rfl, rfl, by decide, by decide⟩ rfl (by exact Nat.le_of_ble_eq_true rfl) (fun x3 => ?_)
      refine qb_callV hX 12 rfl cv_Run_46 (jm_Run_putCell (qk_GI hX) this p2 s2 x3 hthis ) (ci := 4) hthis ⟨rfl, rfl, rfl, by decide, by decide⟩ rfl (by exact Nat.le_of_ble_eq_true rfl) ?_
      refine qb_iinc hX 13 1 (fun x4 => [some (.ref (qx_ad X this)), some (.int p1), some (.int p2), some (.int x4)]) rfl (by decide) (by decide) rfl (fun _ => rfl) (fun x4 => ?_)
      exact qb_exit (fun σ h => qj_goto hX 14 rfl (by decide) (qj_wk (ρ' := [some (.ref (qx_ad X this)), some (.int p1), some (.int p2), some (.int x4)]) (qw_s (qw_s (qw_s (qw_s (qw_0))))) h))
  · intro s1
    exact qb_vret hX 15 rfl hR (fun _ h => h)
theorem jm_Run_copyCells {l : Launch} {G : qm_G} (hG : qm_GI G) (this : Nat) (p1 : Int32) (p2 : Int32) (hthis : (qm_kd this).1 = 14) : qm_MV l G jy_Run_copyCells prog_6_method_16_code 4 1 23 [.ref (G.1 this), .int p1, .int p2] (jf_Run_copyCells this p1 p2) :=
  qm_metV (by decide +kernel) jd_Run_copyCells (fun v hv => by simp only [List.mem_cons, List.not_mem_nil, or_false] at hv; rcases hv with rfl | rfl | rfl <;> rfl) (by exact Nat.le_of_ble_eq_true rfl) hG (fun X hl hg hX σ0 hR => by subst hl; subst hg; exact jb_Run_copyCells hX hR this p1 p2 hthis)
def jl_Run_repeat : List qm_I := [(0, .aload_n 0, 1, 1), (1, .aload_n 0, 1, 2), (2, .iload_n 1, 1, 3), (3, .iconst 0, 1, 4), (4, .invokevirtual 42, 3, 7), (7, .invokevirtual 50, 3, 10), (10, .istore_n 2, 1, 11), (11, .aload_n 0, 1, 12), (12, .iload_n 1, 1, 13), (13, .iload_n 2, 1, 14), (14, .invokevirtual 54, 3, 17), (17, .return_, 1, 18)]
theorem jd_Run_repeat : qm_D prog_6_method_14_code jl_Run_repeat := qm_D_of (by decide +kernel)
noncomputable def jf_Run_repeat (this : Nat) (p1 : Int32) : qm_M Unit :=
  mB (jf_Run_cell this p1 0) fun x1 =>
  mB (jf_Run_add this x1) fun x2 =>
  mB (jf_Run_copyCells this p1 x2) fun _ =>
  mP ()
set_option maxRecDepth 20000 in
set_option maxHeartbeats 4000000 in
theorem jb_Run_repeat {X : qm_X} (hX : qm_ok X qr_Run prog_6_method_14_code 3 2 46 jl_Run_repeat) {σ0 : qm_Mem} (hR : qm_RV X σ0) (this : Nat) (p1 : Int32) (hthis : (qm_kd this).1 = 14) : qm_B X (jf_Run_repeat this p1) 0 [some (.ref (qx_ad X this)), some (.int p1), none] [] (fun _ σ1 => σ1 = σ0) := by
  unfold jf_Run_repeat
  refine qb_aload_n hX 0 rfl rfl ?_
  refine qb_aload_n hX 1 rfl rfl ?_
  refine qb_iload_n hX 2 rfl rfl ?_
  refine qb_iconst hX 3 0 rfl (by decide) ?_
  refine qb_callI hX 4 rfl cv_Run_42 (jm_Run_cell (qk_GI hX) this p1 0 hthis ) (ci := 4) hthis ⟨rfl, rfl, rfl, by decide, by decide⟩ rfl (by exact Nat.le_of_ble_eq_true rfl) (fun x1 => ?_)
  refine qb_callI hX 5 rfl cv_Run_50 (jm_Run_add (qk_GI hX) this x1 hthis ) (ci := 4) hthis ⟨rfl, rfl, rfl, by decide, by decide⟩ rfl (by exact Nat.le_of_ble_eq_true rfl) (fun x2 => ?_)
  refine qb_istore_n hX 6 ([some (.ref (qx_ad X this)), some (.int p1), some (.int x2)]) rfl (by decide) rfl ?_
  refine qb_aload_n hX 7 rfl rfl ?_
  refine qb_iload_n hX 8 rfl rfl ?_
  refine qb_iload_n hX 9 rfl rfl ?_
  refine qb_callV hX 10 rfl cv_Run_54 (jm_Run_copyCells (qk_GI hX) this p1 x2 hthis ) (ci := 4) hthis ⟨rfl, rfl, rfl, by decide, by decide⟩ rfl (by exact Nat.le_of_ble_eq_true rfl) ?_
  exact qb_vret hX 11 rfl hR (fun _ h => h)
theorem jm_Run_repeat {l : Launch} {G : qm_G} (hG : qm_GI G) (this : Nat) (p1 : Int32) (hthis : (qm_kd this).1 = 14) : qm_MV l G jy_Run_repeat prog_6_method_14_code 3 2 46 [.ref (G.1 this), .int p1] (jf_Run_repeat this p1) :=
  qm_metV (by decide +kernel) jd_Run_repeat (fun v hv => by simp only [List.mem_cons, List.not_mem_nil, or_false] at hv; rcases hv with rfl | rfl <;> rfl) (by exact Nat.le_of_ble_eq_true rfl) hG (fun X hl hg hX σ0 hR => by subst hl; subst hg; exact jb_Run_repeat hX hR this p1 hthis)
def jl_Run_remove : List qm_I := [(0, .iload_n 1, 1, 1), (1, .istore_n 2, 1, 2), (2, .iload_n 2, 1, 3), (3, .iconst 1, 1, 4), (4, .iadd, 1, 5), (5, .aload_n 0, 1, 6), (6, .getfield 27, 3, 9), (9, .if_icmp .ge 17, 3, 12), (12, .aload_n 0, 1, 13), (13, .iload_n 2, 1, 14), (14, .iconst 1, 1, 15), (15, .iadd, 1, 16), (16, .iload_n 2, 1, 17), (17, .invokevirtual 54, 3, 20), (20, .iinc 2 1, 3, 23), (23, .goto (-21), 3, 26), (26, .aload_n 0, 1, 27), (27, .dup, 1, 28), (28, .getfield 27, 3, 31), (31, .iconst 1, 1, 32), (32, .isub, 1, 33), (33, .putfield 27, 3, 36), (36, .return_, 1, 37)]
theorem jd_Run_remove : qm_D prog_6_method_15_code jl_Run_remove := qm_D_of (by decide +kernel)
noncomputable def jf_Run_remove (this : Nat) (p1 : Int32) : qm_M Unit :=
  mB (α := Unit) (
    mW (S := Int32) (α := Unit) (fun s2 =>
      mB (mGt this 0) fun x3 =>
      if x3 ≤ (s2 + 1) then
        mP (Sum.inr ())
      else
        mB (jf_Run_copyCells this (s2 + 1) s2) fun _ =>
        mB (mP (s2 + 1)) fun x4 =>
        mP (Sum.inl x4)) p1) fun s1 =>
  mB (mGt this 0) fun x5 =>
  mB (mPt this 0 (x5 - 1)) fun _ =>
  mP ()
set_option maxRecDepth 20000 in
set_option maxHeartbeats 4000000 in
theorem jb_Run_remove {X : qm_X} (hX : qm_ok X qr_Run prog_6_method_15_code 3 2 46 jl_Run_remove) {σ0 : qm_Mem} (hR : qm_RV X σ0) (this : Nat) (p1 : Int32) (hthis : (qm_kd this).1 = 14) : qm_B X (jf_Run_remove this p1) 0 [some (.ref (qx_ad X this)), some (.int p1), none] [] (fun _ σ1 => σ1 = σ0) := by
  unfold jf_Run_remove
  refine qb_iload_n hX 0 rfl rfl ?_
  refine qb_istore_n hX 1 ([some (.ref (qx_ad X this)), some (.int p1), some (.int p1)]) rfl (by decide) rfl ?_
  refine qb_join 26 (fun s1 => [some (.ref (qx_ad X this)), none, none]) (fun s1 => []) ?_ ?_
  ·
    refine qb_loopw (p1) (fun s2 => [some (.ref (qx_ad X this)), none, some (.int s2)]) (qw_s (qw_n (qw_s (qw_0)))) (fun s2 => ?_)
    refine qb_iload_n hX 2 rfl rfl ?_
    refine qb_iconst hX 3 1 rfl (by decide) ?_
    refine qb_iadd hX 4 rfl ?_
    refine qb_aload_n hX 5 rfl rfl ?_
    refine qb_get hX 6 rfl fl_Run_27 hthis rfl (fun x3 => ?_)
    refine qb_icge hX 7 26 rfl (by decide) ?_ ?_
    ·
      exact qb_exit (fun σ h => qj_wk (ρ' := [some (.ref (qx_ad X this)), none, none]) (qw_s (qw_n (qw_n (qw_0)))) h)
    ·
      refine qb_aload_n hX 8 rfl rfl ?_
      refine qb_iload_n hX 9 rfl rfl ?_
      refine qb_iconst hX 10 1 rfl (by decide) ?_
      refine qb_iadd hX 11 rfl ?_
      refine qb_iload_n hX 12 rfl rfl ?_
      refine qb_callV hX 13 rfl cv_Run_54 (jm_Run_copyCells (qk_GI hX) this (s2 + 1) s2 hthis ) (ci := 4) hthis ⟨rfl, rfl, rfl, by decide, by decide⟩ rfl (by exact Nat.le_of_ble_eq_true rfl) ?_
      refine qb_iinc hX 14 1 (fun x4 => [some (.ref (qx_ad X this)), none, some (.int x4)]) rfl (by decide) (by decide) rfl (fun _ => rfl) (fun x4 => ?_)
      exact qb_exit (fun σ h => qj_goto hX 15 rfl (by decide) (qj_wk (ρ' := [some (.ref (qx_ad X this)), none, some (.int x4)]) (qw_s (qw_n (qw_s (qw_0)))) h))
  · intro s1
    refine qb_aload_n hX 16 rfl rfl ?_
    refine qb_dup hX 17 rfl rfl ?_
    refine qb_get hX 18 rfl fl_Run_27 hthis rfl (fun x5 => ?_)
    refine qb_iconst hX 19 1 rfl (by decide) ?_
    refine qb_isub hX 20 rfl ?_
    refine qb_put hX 21 rfl fp_Run_27 hthis ?_
    exact qb_vret hX 22 rfl hR (fun _ h => h)
theorem jm_Run_remove {l : Launch} {G : qm_G} (hG : qm_GI G) (this : Nat) (p1 : Int32) (hthis : (qm_kd this).1 = 14) : qm_MV l G jy_Run_remove prog_6_method_15_code 3 2 46 [.ref (G.1 this), .int p1] (jf_Run_remove this p1) :=
  qm_metV (by decide +kernel) jd_Run_remove (fun v hv => by simp only [List.mem_cons, List.not_mem_nil, or_false] at hv; rcases hv with rfl | rfl <;> rfl) (by exact Nat.le_of_ble_eq_true rfl) hG (fun X hl hg hX σ0 hR => by subst hl; subst hg; exact jb_Run_remove hX hR this p1 hthis)
def jl_Run_addMark : List qm_I := [(0, .aload_n 0, 1, 1), (1, .iload_n 1, 1, 2), (2, .bipush 7, 2, 4), (4, .invokevirtual 42, 3, 7), (7, .istore 4, 2, 9), (9, .iload 4, 2, 11), (11, .ifCond .lt 42, 3, 14), (14, .iload 4, 2, 16), (16, .iconst 4, 1, 17), (17, .if_icmp .ge 36, 3, 20), (20, .aload_n 0, 1, 21), (21, .iload_n 1, 1, 22), (22, .bipush 8, 2, 24), (24, .iload 4, 2, 26), (26, .iadd, 1, 27), (27, .iload_n 2, 1, 28), (28, .invokevirtual 46, 3, 31), (31, .aload_n 0, 1, 32), (32, .iload_n 1, 1, 33), (33, .bipush 12, 2, 35), (35, .iload 4, 2, 37), (37, .iadd, 1, 38), (38, .iload_n 3, 1, 39), (39, .invokevirtual 46, 3, 42), (42, .aload_n 0, 1, 43), (43, .iload_n 1, 1, 44), (44, .bipush 7, 2, 46), (46, .iload 4, 2, 48), (48, .iconst 1, 1, 49), (49, .iadd, 1, 50), (50, .invokevirtual 46, 3, 53), (53, .return_, 1, 54)]
theorem jd_Run_addMark : qm_D prog_6_method_18_code jl_Run_addMark := qm_D_of (by decide +kernel)
noncomputable def jf_Run_addMark (this : Nat) (p1 : Int32) (p2 : Int32) (p3 : Int32) : qm_M Unit :=
  mB (jf_Run_cell this p1 7) fun x1 =>
  if x1 < 0 then
    mP ()
  else
    if 4 ≤ x1 then
      mP ()
    else
      mB (jf_Run_putCell this p1 (8 + x1) p2) fun _ =>
      mB (jf_Run_putCell this p1 (12 + x1) p3) fun _ =>
      mB (jf_Run_putCell this p1 7 (x1 + 1)) fun _ =>
      mP ()
set_option maxRecDepth 20000 in
set_option maxHeartbeats 4000000 in
theorem jb_Run_addMark {X : qm_X} (hX : qm_ok X qr_Run prog_6_method_18_code 5 1 23 jl_Run_addMark) {σ0 : qm_Mem} (hR : qm_RV X σ0) (this : Nat) (p1 : Int32) (p2 : Int32) (p3 : Int32) (hthis : (qm_kd this).1 = 14) : qm_B X (jf_Run_addMark this p1 p2 p3) 0 [some (.ref (qx_ad X this)), some (.int p1), some (.int p2), some (.int p3), none] [] (fun _ σ1 => σ1 = σ0) := by
  unfold jf_Run_addMark
  refine qb_aload_n hX 0 rfl rfl ?_
  refine qb_iload_n hX 1 rfl rfl ?_
  refine qb_bipush hX 2 7 rfl (by decide) ?_
  refine qb_callI hX 3 rfl cv_Run_42 (jm_Run_cell (qk_GI hX) this p1 7 hthis ) (ci := 4) hthis ⟨rfl, rfl, rfl, by decide, by decide⟩ rfl (by exact Nat.le_of_ble_eq_true rfl) (fun x1 => ?_)
  refine qb_istore hX 4 ([some (.ref (qx_ad X this)), some (.int p1), some (.int p2), some (.int p3), some (.int x1)]) rfl (by decide) rfl ?_
  refine qb_iload hX 5 rfl rfl ?_
  refine qb_iflt hX 6 53 rfl (by decide) ?_ ?_
  ·
    exact qb_vret hX 31 rfl hR (fun _ h => h)
  ·
    refine qb_iload hX 7 rfl rfl ?_
    refine qb_iconst hX 8 4 rfl (by decide) ?_
    refine qb_icge hX 9 53 rfl (by decide) ?_ ?_
    ·
      exact qb_vret hX 31 rfl hR (fun _ h => h)
    ·
      refine qb_aload_n hX 10 rfl rfl ?_
      refine qb_iload_n hX 11 rfl rfl ?_
      refine qb_bipush hX 12 8 rfl (by decide) ?_
      refine qb_iload hX 13 rfl rfl ?_
      refine qb_iadd hX 14 rfl ?_
      refine qb_iload_n hX 15 rfl rfl ?_
      refine qb_callV hX 16 rfl cv_Run_46 (jm_Run_putCell (qk_GI hX) this p1 (8 + x1) p2 hthis ) (ci := 4) hthis ⟨rfl, rfl, rfl, by decide, by decide⟩ rfl (by exact Nat.le_of_ble_eq_true rfl) ?_
      refine qb_aload_n hX 17 rfl rfl ?_
      refine qb_iload_n hX 18 rfl rfl ?_
      refine qb_bipush hX 19 12 rfl (by decide) ?_
      refine qb_iload hX 20 rfl rfl ?_
      refine qb_iadd hX 21 rfl ?_
      refine qb_iload_n hX 22 rfl rfl ?_
      refine qb_callV hX 23 rfl cv_Run_46 (jm_Run_putCell (qk_GI hX) this p1 (12 + x1) p3 hthis ) (ci := 4) hthis ⟨rfl, rfl, rfl, by decide, by decide⟩ rfl (by exact Nat.le_of_ble_eq_true rfl) ?_
      refine qb_aload_n hX 24 rfl rfl ?_
      refine qb_iload_n hX 25 rfl rfl ?_
      refine qb_bipush hX 26 7 rfl (by decide) ?_
      refine qb_iload hX 27 rfl rfl ?_
      refine qb_iconst hX 28 1 rfl (by decide) ?_
      refine qb_iadd hX 29 rfl ?_
      refine qb_callV hX 30 rfl cv_Run_46 (jm_Run_putCell (qk_GI hX) this p1 7 (x1 + 1) hthis ) (ci := 4) hthis ⟨rfl, rfl, rfl, by decide, by decide⟩ rfl (by exact Nat.le_of_ble_eq_true rfl) ?_
      exact qb_vret hX 31 rfl hR (fun _ h => h)
theorem jm_Run_addMark {l : Launch} {G : qm_G} (hG : qm_GI G) (this : Nat) (p1 : Int32) (p2 : Int32) (p3 : Int32) (hthis : (qm_kd this).1 = 14) : qm_MV l G jy_Run_addMark prog_6_method_18_code 5 1 23 [.ref (G.1 this), .int p1, .int p2, .int p3] (jf_Run_addMark this p1 p2 p3) :=
  qm_metV (by decide +kernel) jd_Run_addMark (fun v hv => by simp only [List.mem_cons, List.not_mem_nil, or_false] at hv; rcases hv with rfl | rfl | rfl | rfl <;> rfl) (by exact Nat.le_of_ble_eq_true rfl) hG (fun X hl hg hX σ0 hR => by subst hl; subst hg; exact jb_Run_addMark hX hR this p1 p2 p3 hthis)
def jl_Tape_append : List qm_I := [(0, .bipush 24, 2, 2), (2, .istore_n 2, 1, 3), (3, .iload_n 2, 1, 4), (4, .ifCond .lt 54, 3, 7), (7, .aload_n 0, 1, 8), (8, .getfield 15, 3, 11), (11, .ifCond .lt 41, 3, 14), (14, .aload_n 0, 1, 15), (15, .getfield 15, 3, 18), (18, .aload_n 0, 1, 19), (19, .getfield 9, 3, 22), (22, .arraylength, 1, 23), (23, .if_icmp .ge 29, 3, 26), (26, .aload_n 0, 1, 27), (27, .getfield 9, 3, 30), (30, .aload_n 0, 1, 31), (31, .getfield 15, 3, 34), (34, .iload_n 1, 1, 35), (35, .iload_n 2, 1, 36), (36, .ishr, 1, 37), (37, .sipush 255, 3, 40), (40, .iand, 1, 41), (41, .iastore, 1, 42), (42, .aload_n 0, 1, 43), (43, .dup, 1, 44), (44, .getfield 15, 3, 47), (47, .iconst 1, 1, 48), (48, .iadd, 1, 49), (49, .putfield 15, 3, 52), (52, .iinc 2 (-8), 3, 55), (55, .goto (-52), 3, 58), (58, .return_, 1, 59)]
theorem jd_Tape_append : qm_D prog_7_method_2_code jl_Tape_append := qm_D_of (by decide +kernel)
noncomputable def jf_Tape_append (this : Nat) (p1 : Int32) : qm_M Unit :=
  mB (α := Unit) (
    mW (S := Int32) (α := Unit) (fun s2 =>
      if s2 < 0 then
        mP (Sum.inr ())
      else
        mB (mGt this 1) fun x3 =>
        mB (α := Unit) (
          if x3 < 0 then
            mP ()
          else
            mB (mGt this 1) fun x5 =>
            if (Int32.ofNat (qm_kd (qm_rf this 0)).2) ≤ x5 then
              mP ()
            else
              mB (mGt this 1) fun x6 =>
              mB (mSt (qm_rf this 0) x6 ((p1 >>> (s2 &&& 31)) &&& 255)) fun _ =>
              mB (mGt this 1) fun x7 =>
              mB (mPt this 1 (x7 + 1)) fun _ =>
              mP ()) fun s4 =>
        mB (mP (s2 + (-8))) fun x8 =>
        mP (Sum.inl x8)) 24) fun s1 =>
  mP ()
set_option maxRecDepth 20000 in
set_option maxHeartbeats 4000000 in
theorem jb_Tape_append {X : qm_X} (hX : qm_ok X qr_Tape prog_7_method_2_code 3 0 0 jl_Tape_append) {σ0 : qm_Mem} (hR : qm_RV X σ0) (this : Nat) (p1 : Int32) (hthis : (qm_kd this).1 = 15) : qm_B X (jf_Tape_append this p1) 0 [some (.ref (qx_ad X this)), some (.int p1), none] [] (fun _ σ1 => σ1 = σ0) := by
  unfold jf_Tape_append
  refine qb_bipush hX 0 24 rfl (by decide) ?_
  refine qb_istore_n hX 1 ([some (.ref (qx_ad X this)), some (.int p1), some (.int 24)]) rfl (by decide) rfl ?_
  refine qb_join 58 (fun s1 => [none, none, none]) (fun s1 => []) ?_ ?_
  ·
    refine qb_loopw (24) (fun s2 => [some (.ref (qx_ad X this)), some (.int p1), some (.int s2)]) (qw_s (qw_s (qw_s (qw_0)))) (fun s2 => ?_)
    refine qb_iload_n hX 2 rfl rfl ?_
    refine qb_iflt hX 3 58 rfl (by decide) ?_ ?_
    ·
      exact qb_exit (fun σ h => qj_wk (ρ' := [none, none, none]) (qw_n (qw_n (qw_n (qw_0)))) h)
    ·
      refine qb_aload_n hX 4 rfl rfl ?_
      refine qb_get hX 5 rfl fl_Tape_15 hthis rfl (fun x3 => ?_)
      refine qb_join 52 (fun s4 => [some (.ref (qx_ad X this)), some (.int p1), some (.int s2)]) (fun s4 => []) ?_ ?_
      ·
        refine qb_iflt hX 6 52 rfl (by decide) ?_ ?_
        ·
          exact qb_exit (fun σ h => qj_wk (ρ' := [some (.ref (qx_ad X this)), some (.int p1), some (.int s2)]) (qw_s (qw_s (qw_s (qw_0)))) h)
        ·
          refine qb_aload_n hX 7 rfl rfl ?_
          refine qb_get hX 8 rfl fl_Tape_15 hthis rfl (fun x5 => ?_)
          refine qb_aload_n hX 9 rfl rfl ?_
          refine qb_getR hX 10 rfl fl_Tape_9 hthis rfl ?_
          refine qb_alen hX 11 (Int32.ofNat (qm_kd (qm_rf this 0)).2) rfl (Or.inl (kf_Tape_0 hthis)) rfl ?_
          refine qb_icge hX 12 52 rfl (by decide) ?_ ?_
          ·
            exact qb_exit (fun σ h => qj_wk (ρ' := [some (.ref (qx_ad X this)), some (.int p1), some (.int s2)]) (qw_s (qw_s (qw_s (qw_0)))) h)
          ·
            refine qb_aload_n hX 13 rfl rfl ?_
            refine qb_getR hX 14 rfl fl_Tape_9 hthis rfl ?_
            refine qb_aload_n hX 15 rfl rfl ?_
            refine qb_get hX 16 rfl fl_Tape_15 hthis rfl (fun x6 => ?_)
            refine qb_iload_n hX 17 rfl rfl ?_
            refine qb_iload_n hX 18 rfl rfl ?_
            refine qb_ishr hX 19 rfl ?_
            refine qb_sipush hX 20 255 rfl (by decide) ?_
            refine qb_iand hX 21 rfl ?_
            refine qb_iast hX 22 rfl (kf_Tape_0 hthis) ?_
            refine qb_aload_n hX 23 rfl rfl ?_
            refine qb_dup hX 24 rfl rfl ?_
            refine qb_get hX 25 rfl fl_Tape_15 hthis rfl (fun x7 => ?_)
            refine qb_iconst hX 26 1 rfl (by decide) ?_
            refine qb_iadd hX 27 rfl ?_
            refine qb_put hX 28 rfl fp_Tape_15 hthis ?_
            exact qb_exit (fun σ h => qj_wk (ρ' := [some (.ref (qx_ad X this)), some (.int p1), some (.int s2)]) (qw_s (qw_s (qw_s (qw_0)))) h)
      · intro s4
        refine qb_iinc hX 29 (-8) (fun x8 => [some (.ref (qx_ad X this)), some (.int p1), some (.int x8)]) rfl (by decide) (by decide) rfl (fun _ => rfl) (fun x8 => ?_)
        exact qb_exit (fun σ h => qj_goto hX 30 rfl (by decide) (qj_wk (ρ' := [some (.ref (qx_ad X this)), some (.int p1), some (.int x8)]) (qw_s (qw_s (qw_s (qw_0)))) h))
  · intro s1
    exact qb_vret hX 31 rfl hR (fun _ h => h)
theorem jm_Tape_append {l : Launch} {G : qm_G} (hG : qm_GI G) (this : Nat) (p1 : Int32) (hthis : (qm_kd this).1 = 15) : qm_MV l G jy_Tape_append prog_7_method_2_code 3 0 0 [.ref (G.1 this), .int p1] (jf_Tape_append this p1) :=
  qm_metV (by decide +kernel) jd_Tape_append (fun v hv => by simp only [List.mem_cons, List.not_mem_nil, or_false] at hv; rcases hv with rfl | rfl <;> rfl) (by exact Nat.le_of_ble_eq_true rfl) hG (fun X hl hg hX σ0 hR => by subst hl; subst hg; exact jb_Tape_append hX hR this p1 hthis)
def jl_Teller_signOf : List qm_I := [(0, .iload_n 0, 1, 1), (1, .bipush 97, 2, 3), (3, .if_icmp .lt 11, 3, 6), (6, .iload_n 0, 1, 7), (7, .bipush 122, 2, 9), (9, .if_icmp .gt 5, 3, 12), (12, .iconst 0, 1, 13), (13, .ireturn, 1, 14), (14, .iload_n 0, 1, 15), (15, .bipush 48, 2, 17), (17, .if_icmp .lt 11, 3, 20), (20, .iload_n 0, 1, 21), (21, .bipush 57, 2, 23), (23, .if_icmp .gt 5, 3, 26), (26, .iconst 1, 1, 27), (27, .ireturn, 1, 28), (28, .iload_n 0, 1, 29), (29, .bipush 59, 2, 31), (31, .if_icmp .ne 7, 3, 34), (34, .iconst 2, 1, 35), (35, .goto 4, 3, 38), (38, .iconst 3, 1, 39), (39, .ireturn, 1, 40)]
theorem jd_Teller_signOf : qm_D prog_8_method_4_code jl_Teller_signOf := qm_D_of (by decide +kernel)
noncomputable def jf_Teller_signOf (p1 : Int32) : qm_M Int32 :=
  mB (α := (Unit ⊕ Int32)) (
    if p1 < 97 then
      mP (Sum.inl ())
    else
      if 122 < p1 then
        mP (Sum.inl ())
      else
        mP (Sum.inr 0)) (Sum.elim (fun s1 =>
    mB (α := (Unit ⊕ Int32)) (
      if p1 < 48 then
        mP (Sum.inl ())
      else
        if 57 < p1 then
          mP (Sum.inl ())
        else
          mP (Sum.inr 1)) (Sum.elim (fun s2 =>
      if ¬ p1 = 59 then
        mP 3
      else
        mP 2) mP)) mP)
set_option maxRecDepth 20000 in
set_option maxHeartbeats 4000000 in
theorem jb_Teller_signOf {X : qm_X} (hX : qm_ok X qr_Teller prog_8_method_4_code 1 0 0 jl_Teller_signOf) {r0 : Int32} {σ0 : qm_Mem} (hR : qm_RI X r0 σ0 .int) (p1 : Int32)  : qm_B X (jf_Teller_signOf p1) 0 [some (.int p1)] [] (fun r σ1 => r = r0 ∧ σ1 = σ0) := by
  unfold jf_Teller_signOf
  refine qb_iload_n hX 0 rfl rfl ?_
  refine qb_bipush hX 1 97 rfl (by decide) ?_
  refine qb_join2 14 (fun s1 => [some (.int p1)]) (fun s1 => []) ?_ ?_
  ·
    refine qb_iclt hX 2 14 rfl (by decide) ?_ ?_
    ·
      exact qb_exit (fun σ h => qj_wk (ρ' := [some (.int p1)]) (qw_s (qw_0)) h)
    ·
      refine qb_iload_n hX 3 rfl rfl ?_
      refine qb_bipush hX 4 122 rfl (by decide) ?_
      refine qb_icgt hX 5 14 rfl (by decide) ?_ ?_
      ·
        exact qb_exit (fun σ h => qj_wk (ρ' := [some (.int p1)]) (qw_s (qw_0)) h)
      ·
        refine qb_iconst hX 6 0 rfl (by decide) ?_
        exact qb_iret hX 7 rfl hR (fun _ h => h)
  · intro s1
    refine qb_iload_n hX 8 rfl rfl ?_
    refine qb_bipush hX 9 48 rfl (by decide) ?_
    refine qb_join2 28 (fun s2 => [some (.int p1)]) (fun s2 => []) ?_ ?_
    ·
      refine qb_iclt hX 10 28 rfl (by decide) ?_ ?_
      ·
        exact qb_exit (fun σ h => qj_wk (ρ' := [some (.int p1)]) (qw_s (qw_0)) h)
      ·
        refine qb_iload_n hX 11 rfl rfl ?_
        refine qb_bipush hX 12 57 rfl (by decide) ?_
        refine qb_icgt hX 13 28 rfl (by decide) ?_ ?_
        ·
          exact qb_exit (fun σ h => qj_wk (ρ' := [some (.int p1)]) (qw_s (qw_0)) h)
        ·
          refine qb_iconst hX 14 1 rfl (by decide) ?_
          exact qb_iret hX 15 rfl hR (fun _ h => h)
    · intro s2
      refine qb_iload_n hX 16 rfl rfl ?_
      refine qb_bipush hX 17 59 rfl (by decide) ?_
      refine qb_icne hX 18 38 rfl (by decide) ?_ ?_
      ·
        refine qb_iconst hX 21 3 rfl (by decide) ?_
        exact qb_iret hX 22 rfl hR (fun _ h => h)
      ·
        refine qb_iconst hX 19 2 rfl (by decide) ?_
        refine qb_goto hX 20 (tgt := 39) rfl (by decide) ?_
        exact qb_iret hX 22 rfl hR (fun _ h => h)
theorem jm_Teller_signOf {l : Launch} {G : qm_G} (hG : qm_GI G) (p1 : Int32)  : qm_MI l G jy_Teller_signOf prog_8_method_4_code 1 (some .int) 0 0 [.int p1] (jf_Teller_signOf p1) :=
  qm_metI (by decide +kernel) jd_Teller_signOf (fun v hv => by simp only [List.mem_cons, List.not_mem_nil, or_false] at hv; rcases hv with rfl <;> rfl) (by exact Nat.le_of_ble_eq_true rfl) hG rfl (fun X hl hg hX r0 σ0 hR => by subst hl; subst hg; exact jb_Teller_signOf hX hR p1 )
def jl_Teller_numberOf : List qm_I := [(0, .iconst 0, 1, 1), (1, .istore_n 3, 1, 2), (2, .iload_n 1, 1, 3), (3, .istore 4, 2, 5), (5, .iload 4, 2, 7), (7, .iload_n 2, 1, 8), (8, .if_icmp .ge 35, 3, 11), (11, .ldc 88, 2, 13), (13, .iload_n 3, 1, 14), (14, .bipush 10, 2, 16), (16, .imul, 1, 17), (17, .aload_n 0, 1, 18), (18, .getfield 11, 3, 21), (21, .getfield 70, 3, 24), (24, .iload 4, 2, 26), (26, .invokestatic 73, 3, 29), (29, .iadd, 1, 30), (30, .bipush 48, 2, 32), (32, .isub, 1, 33), (33, .invokestatic 89, 3, 36), (36, .istore_n 3, 1, 37), (37, .iinc 4 1, 3, 40), (40, .goto (-35), 3, 43), (43, .iload_n 3, 1, 44), (44, .ireturn, 1, 45)]
theorem jd_Teller_numberOf : qm_D prog_8_method_5_code jl_Teller_numberOf := qm_D_of (by decide +kernel)
noncomputable def jf_Teller_numberOf (this : Nat) (p1 : Int32) (p2 : Int32) : qm_M Int32 :=
  mB (α := Int32) (
    mW (S := Int32 × Int32) (α := Int32) (fun s2 =>
      if p2 ≤ s2.2 then
        mP (Sum.inr s2.1)
      else
        mB (jf_Top_at (qm_rf (qm_rf this 0) 0) s2.2) fun x3 =>
        mB (jf_Math_min 100000 (((s2.1 * 10) + x3) - 48)) fun x4 =>
        mB (mP (s2.2 + 1)) fun x5 =>
        mP (Sum.inl (x4, x5))) (0, p1)) fun s1 =>
  mP s1
set_option maxRecDepth 20000 in
set_option maxHeartbeats 4000000 in
theorem jb_Teller_numberOf {X : qm_X} (hX : qm_ok X qr_Teller prog_8_method_5_code 5 1 21 jl_Teller_numberOf) {r0 : Int32} {σ0 : qm_Mem} (hR : qm_RI X r0 σ0 .int) (this : Nat) (p1 : Int32) (p2 : Int32) (hthis : (qm_kd this).1 = 16) : qm_B X (jf_Teller_numberOf this p1 p2) 0 [some (.ref (qx_ad X this)), some (.int p1), some (.int p2), none, none] [] (fun r σ1 => r = r0 ∧ σ1 = σ0) := by
  unfold jf_Teller_numberOf
  refine qb_iconst hX 0 0 rfl (by decide) ?_
  refine qb_istore_n hX 1 ([some (.ref (qx_ad X this)), some (.int p1), some (.int p2), some (.int 0), none]) rfl (by decide) rfl ?_
  refine qb_iload_n hX 2 rfl rfl ?_
  refine qb_istore hX 3 ([some (.ref (qx_ad X this)), some (.int p1), some (.int p2), some (.int 0), some (.int p1)]) rfl (by decide) rfl ?_
  refine qb_join 43 (fun s1 => [none, none, none, some (.int s1), none]) (fun s1 => []) ?_ ?_
  ·
    refine qb_loopw ((0, p1)) (fun s2 => [some (.ref (qx_ad X this)), none, some (.int p2), some (.int s2.1), some (.int s2.2)]) (qw_s (qw_n (qw_s (qw_s (qw_s (qw_0)))))) (fun s2 => ?_)
    refine qb_iload hX 4 rfl rfl ?_
    refine qb_iload_n hX 5 rfl rfl ?_
    refine qb_icge hX 6 43 rfl (by decide) ?_ ?_
    ·
      exact qb_exit (fun σ h => qj_wk (ρ' := [none, none, none, some (.int s2.1), none]) (qw_n (qw_n (qw_n (qw_s (qw_n (qw_0)))))) h)
    ·
      refine qb_ldc hX 7 100000 rfl kc_Teller_88 ?_
      refine qb_iload_n hX 8 rfl rfl ?_
      refine qb_bipush hX 9 10 rfl (by decide) ?_
      refine qb_imul hX 10 rfl ?_
      refine qb_aload_n hX 11 rfl rfl ?_
      refine qb_getR hX 12 rfl fl_Teller_11 hthis rfl ?_
      refine qb_getR hX 13 rfl fl_Teller_70 (kf_Teller_0 hthis) rfl ?_
      refine qb_iload hX 14 rfl rfl ?_
      refine qb_calNI hX 15 rfl cv_Teller_73 (jm_Top_at (qk_GI hX) (qm_rf (qm_rf this 0) 0) s2.2 (kf_Tape_0 (kf_Teller_0 hthis))) ⟨rfl, by decide, by decide⟩ rfl (by exact Nat.le_of_ble_eq_true rfl) (fun x3 => ?_)
      refine qb_iadd hX 16 rfl ?_
      refine qb_bipush hX 17 48 rfl (by decide) ?_
      refine qb_isub hX 18 rfl ?_
      refine qb_mmin hX 19 rfl cv_Teller_89 (by decide) (by exact Nat.le_of_ble_eq_true rfl) (fun x4 => ?_)
      refine qb_istore_n hX 20 ([some (.ref (qx_ad X this)), none, some (.int p2), some (.int x4), some (.int s2.2)]) rfl (by decide) rfl ?_
      refine qb_iinc hX 21 1 (fun x5 => [some (.ref (qx_ad X this)), none, some (.int p2), some (.int x4), some (.int x5)]) rfl (by decide) (by decide) rfl (fun _ => rfl) (fun x5 => ?_)
      exact qb_exit (fun σ h => qj_goto hX 22 rfl (by decide) (qj_wk (ρ' := [some (.ref (qx_ad X this)), none, some (.int p2), some (.int x4), some (.int x5)]) (qw_s (qw_n (qw_s (qw_s (qw_s (qw_0)))))) h))
  · intro s1
    refine qb_iload_n hX 23 rfl rfl ?_
    exact qb_iret hX 24 rfl hR (fun _ h => h)
theorem jm_Teller_numberOf {l : Launch} {G : qm_G} (hG : qm_GI G) (this : Nat) (p1 : Int32) (p2 : Int32) (hthis : (qm_kd this).1 = 16) : qm_MI l G jy_Teller_numberOf prog_8_method_5_code 5 (some .int) 1 21 [.ref (G.1 this), .int p1, .int p2] (jf_Teller_numberOf this p1 p2) :=
  qm_metI (by decide +kernel) jd_Teller_numberOf (fun v hv => by simp only [List.mem_cons, List.not_mem_nil, or_false] at hv; rcases hv with rfl | rfl | rfl <;> rfl) (by exact Nat.le_of_ble_eq_true rfl) hG rfl (fun X hl hg hX r0 σ0 hR => by subst hl; subst hg; exact jb_Teller_numberOf hX hR this p1 p2 hthis)
def jl_Teller_sign : List qm_I := [(0, .aload_n 0, 1, 1), (1, .getfield 38, 3, 4), (4, .ifCond .lt 25, 3, 7), (7, .aload_n 0, 1, 8), (8, .getfield 38, 3, 11), (11, .sipush 401, 3, 14), (14, .if_icmp .ge 15, 3, 17), (17, .aload_n 0, 1, 18), (18, .getfield 22, 3, 21), (21, .aload_n 0, 1, 22), (22, .getfield 38, 3, 25), (25, .iaload, 1, 26), (26, .goto 4, 3, 29), (29, .iconst 4, 1, 30), (30, .ireturn, 1, 31)]
theorem jd_Teller_sign : qm_D prog_8_method_18_code jl_Teller_sign := qm_D_of (by decide +kernel)
noncomputable def jf_Teller_sign (this : Nat) : qm_M Int32 :=
  mB (mGt this 5) fun x1 =>
  if x1 < 0 then
    mP 4
  else
    mB (mGt this 5) fun x2 =>
    if 401 ≤ x2 then
      mP 4
    else
      mB (mGt this 5) fun x3 =>
      mB (mLd (qm_rf this 2) x3) fun x4 =>
      mP x4
set_option maxRecDepth 20000 in
set_option maxHeartbeats 4000000 in
theorem jb_Teller_sign {X : qm_X} (hX : qm_ok X qr_Teller prog_8_method_18_code 1 0 0 jl_Teller_sign) {r0 : Int32} {σ0 : qm_Mem} (hR : qm_RI X r0 σ0 .int) (this : Nat) (hthis : (qm_kd this).1 = 16) : qm_B X (jf_Teller_sign this) 0 [some (.ref (qx_ad X this))] [] (fun r σ1 => r = r0 ∧ σ1 = σ0) := by
  unfold jf_Teller_sign
  refine qb_aload_n hX 0 rfl rfl ?_
  refine qb_get hX 1 rfl fl_Teller_38 hthis rfl (fun x1 => ?_)
  refine qb_iflt hX 2 29 rfl (by decide) ?_ ?_
  ·
    refine qb_iconst hX 13 4 rfl (by decide) ?_
    exact qb_iret hX 14 rfl hR (fun _ h => h)
  ·
    refine qb_aload_n hX 3 rfl rfl ?_
    refine qb_get hX 4 rfl fl_Teller_38 hthis rfl (fun x2 => ?_)
    refine qb_sipush hX 5 401 rfl (by decide) ?_
    refine qb_icge hX 6 29 rfl (by decide) ?_ ?_
    ·
      refine qb_iconst hX 13 4 rfl (by decide) ?_
      exact qb_iret hX 14 rfl hR (fun _ h => h)
    ·
      refine qb_aload_n hX 7 rfl rfl ?_
      refine qb_getR hX 8 rfl fl_Teller_22 hthis rfl ?_
      refine qb_aload_n hX 9 rfl rfl ?_
      refine qb_get hX 10 rfl fl_Teller_38 hthis rfl (fun x3 => ?_)
      refine qb_iald hX 11 rfl (kf_Teller_2 hthis) (fun x4 => ?_)
      refine qb_goto hX 12 (tgt := 30) rfl (by decide) ?_
      exact qb_iret hX 14 rfl hR (fun _ h => h)
theorem jm_Teller_sign {l : Launch} {G : qm_G} (hG : qm_GI G) (this : Nat) (hthis : (qm_kd this).1 = 16) : qm_MI l G jy_Teller_sign prog_8_method_18_code 1 (some .int) 0 0 [.ref (G.1 this)] (jf_Teller_sign this) :=
  qm_metI (by decide +kernel) jd_Teller_sign (fun v hv => by simp only [List.mem_cons, List.not_mem_nil, or_false] at hv; rcases hv with rfl <;> rfl) (by exact Nat.le_of_ble_eq_true rfl) hG rfl (fun X hl hg hX r0 σ0 hR => by subst hl; subst hg; exact jb_Teller_sign hX hR this hthis)
def jl_Teller_place : List qm_I := [(0, .aload_n 0, 1, 1), (1, .getfield 38, 3, 4), (4, .ifCond .lt 25, 3, 7), (7, .aload_n 0, 1, 8), (8, .getfield 38, 3, 11), (11, .sipush 401, 3, 14), (14, .if_icmp .ge 15, 3, 17), (17, .aload_n 0, 1, 18), (18, .getfield 26, 3, 21), (21, .aload_n 0, 1, 22), (22, .getfield 38, 3, 25), (25, .iaload, 1, 26), (26, .goto 10, 3, 29), (29, .aload_n 0, 1, 30), (30, .getfield 11, 3, 33), (33, .getfield 65, 3, 36), (36, .ireturn, 1, 37)]
theorem jd_Teller_place : qm_D prog_8_method_19_code jl_Teller_place := qm_D_of (by decide +kernel)
noncomputable def jf_Teller_place (this : Nat) : qm_M Int32 :=
  mB (mGt this 5) fun x1 =>
  if x1 < 0 then
    mB (mGt (qm_rf this 0) 1) fun x2 =>
    mP x2
  else
    mB (mGt this 5) fun x3 =>
    if 401 ≤ x3 then
      mB (mGt (qm_rf this 0) 1) fun x4 =>
      mP x4
    else
      mB (mGt this 5) fun x5 =>
      mB (mLd (qm_rf this 3) x5) fun x6 =>
      mP x6
set_option maxRecDepth 20000 in
set_option maxHeartbeats 4000000 in
theorem jb_Teller_place {X : qm_X} (hX : qm_ok X qr_Teller prog_8_method_19_code 1 0 0 jl_Teller_place) {r0 : Int32} {σ0 : qm_Mem} (hR : qm_RI X r0 σ0 .int) (this : Nat) (hthis : (qm_kd this).1 = 16) : qm_B X (jf_Teller_place this) 0 [some (.ref (qx_ad X this))] [] (fun r σ1 => r = r0 ∧ σ1 = σ0) := by
  unfold jf_Teller_place
  refine qb_aload_n hX 0 rfl rfl ?_
  refine qb_get hX 1 rfl fl_Teller_38 hthis rfl (fun x1 => ?_)
  refine qb_iflt hX 2 29 rfl (by decide) ?_ ?_
  ·
    refine qb_aload_n hX 13 rfl rfl ?_
    refine qb_getR hX 14 rfl fl_Teller_11 hthis rfl ?_
    refine qb_get hX 15 rfl fl_Teller_65 (kf_Teller_0 hthis) rfl (fun x2 => ?_)
    exact qb_iret hX 16 rfl hR (fun _ h => h)
  ·
    refine qb_aload_n hX 3 rfl rfl ?_
    refine qb_get hX 4 rfl fl_Teller_38 hthis rfl (fun x3 => ?_)
    refine qb_sipush hX 5 401 rfl (by decide) ?_
    refine qb_icge hX 6 29 rfl (by decide) ?_ ?_
    ·
      refine qb_aload_n hX 13 rfl rfl ?_
      refine qb_getR hX 14 rfl fl_Teller_11 hthis rfl ?_
      refine qb_get hX 15 rfl fl_Teller_65 (kf_Teller_0 hthis) rfl (fun x4 => ?_)
      exact qb_iret hX 16 rfl hR (fun _ h => h)
    ·
      refine qb_aload_n hX 7 rfl rfl ?_
      refine qb_getR hX 8 rfl fl_Teller_26 hthis rfl ?_
      refine qb_aload_n hX 9 rfl rfl ?_
      refine qb_get hX 10 rfl fl_Teller_38 hthis rfl (fun x5 => ?_)
      refine qb_iald hX 11 rfl (kf_Teller_3 hthis) (fun x6 => ?_)
      refine qb_goto hX 12 (tgt := 36) rfl (by decide) ?_
      exact qb_iret hX 16 rfl hR (fun _ h => h)
theorem jm_Teller_place {l : Launch} {G : qm_G} (hG : qm_GI G) (this : Nat) (hthis : (qm_kd this).1 = 16) : qm_MI l G jy_Teller_place prog_8_method_19_code 1 (some .int) 0 0 [.ref (G.1 this)] (jf_Teller_place this) :=
  qm_metI (by decide +kernel) jd_Teller_place (fun v hv => by simp only [List.mem_cons, List.not_mem_nil, or_false] at hv; rcases hv with rfl <;> rfl) (by exact Nat.le_of_ble_eq_true rfl) hG rfl (fun X hl hg hX r0 σ0 hR => by subst hl; subst hg; exact jb_Teller_place hX hR this hthis)
def jl_Teller_readWord : List qm_I := [(0, .aload_n 0, 1, 1), (1, .invokevirtual 48, 3, 4), (4, .ifCond .ne 13, 3, 7), (7, .aload_n 0, 1, 8), (8, .getfield 38, 3, 11), (11, .sipush 401, 3, 14), (14, .if_icmp .lt 5, 3, 17), (17, .iconst (-1), 1, 18), (18, .ireturn, 1, 19), (19, .aload_n 0, 1, 20), (20, .getfield 29, 3, 23), (23, .aload_n 0, 1, 24), (24, .getfield 38, 3, 27), (27, .invokestatic 73, 3, 30), (30, .istore_n 1, 1, 31), (31, .aload_n 0, 1, 32), (32, .dup, 1, 33), (33, .getfield 38, 3, 36), (36, .iconst 1, 1, 37), (37, .iadd, 1, 38), (38, .putfield 38, 3, 41), (41, .iload_n 1, 1, 42), (42, .ireturn, 1, 43)]
theorem jd_Teller_readWord : qm_D prog_8_method_15_code jl_Teller_readWord := qm_D_of (by decide +kernel)
noncomputable def jf_Teller_readWord (this : Nat) : qm_M Int32 :=
  mB (jf_Teller_sign this) fun x1 =>
  if ¬ x1 = 0 then
    mP (-1)
  else
    mB (mGt this 5) fun x2 =>
    if x2 < 401 then
      mB (mGt this 5) fun x3 =>
      mB (jf_Top_at (qm_rf this 4) x3) fun x4 =>
      mB (mGt this 5) fun x5 =>
      mB (mPt this 5 (x5 + 1)) fun _ =>
      mP x4
    else
      mP (-1)
set_option maxRecDepth 20000 in
set_option maxHeartbeats 4000000 in
theorem jb_Teller_readWord {X : qm_X} (hX : qm_ok X qr_Teller prog_8_method_15_code 2 1 21 jl_Teller_readWord) {r0 : Int32} {σ0 : qm_Mem} (hR : qm_RI X r0 σ0 .int) (this : Nat) (hthis : (qm_kd this).1 = 16) : qm_B X (jf_Teller_readWord this) 0 [some (.ref (qx_ad X this)), none] [] (fun r σ1 => r = r0 ∧ σ1 = σ0) := by
  unfold jf_Teller_readWord
  refine qb_aload_n hX 0 rfl rfl ?_
  refine qb_callI hX 1 rfl cv_Teller_48 (jm_Teller_sign (qk_GI hX) this  hthis ) (ci := 6) hthis ⟨rfl, rfl, rfl, by decide, by decide⟩ rfl (by exact Nat.le_of_ble_eq_true rfl) (fun x1 => ?_)
  refine qb_ifne hX 2 17 rfl (by decide) ?_ ?_
  ·
    refine qb_iconst hX 7 (-1) rfl (by decide) ?_
    exact qb_iret hX 8 rfl hR (fun _ h => h)
  ·
    refine qb_aload_n hX 3 rfl rfl ?_
    refine qb_get hX 4 rfl fl_Teller_38 hthis rfl (fun x2 => ?_)
    refine qb_sipush hX 5 401 rfl (by decide) ?_
    refine qb_iclt hX 6 19 rfl (by decide) ?_ ?_
    ·
      refine qb_aload_n hX 9 rfl rfl ?_
      refine qb_getR hX 10 rfl fl_Teller_29 hthis rfl ?_
      refine qb_aload_n hX 11 rfl rfl ?_
      refine qb_get hX 12 rfl fl_Teller_38 hthis rfl (fun x3 => ?_)
      refine qb_calNI hX 13 rfl cv_Teller_73 (jm_Top_at (qk_GI hX) (qm_rf this 4) x3 (kf_Teller_4 hthis)) ⟨rfl, by decide, by decide⟩ rfl (by exact Nat.le_of_ble_eq_true rfl) (fun x4 => ?_)
      refine qb_istore_n hX 14 ([some (.ref (qx_ad X this)), some (.int x4)]) rfl (by decide) rfl ?_
      refine qb_aload_n hX 15 rfl rfl ?_
      refine qb_dup hX 16 rfl rfl ?_
      refine qb_get hX 17 rfl fl_Teller_38 hthis rfl (fun x5 => ?_)
      refine qb_iconst hX 18 1 rfl (by decide) ?_
      refine qb_iadd hX 19 rfl ?_
      refine qb_put hX 20 rfl fp_Teller_38 hthis ?_
      refine qb_iload_n hX 21 rfl rfl ?_
      exact qb_iret hX 22 rfl hR (fun _ h => h)
    ·
      refine qb_iconst hX 7 (-1) rfl (by decide) ?_
      exact qb_iret hX 8 rfl hR (fun _ h => h)
theorem jm_Teller_readWord {l : Launch} {G : qm_G} (hG : qm_GI G) (this : Nat) (hthis : (qm_kd this).1 = 16) : qm_MI l G jy_Teller_readWord prog_8_method_15_code 2 (some .int) 1 21 [.ref (G.1 this)] (jf_Teller_readWord this) :=
  qm_metI (by decide +kernel) jd_Teller_readWord (fun v hv => by simp only [List.mem_cons, List.not_mem_nil, or_false] at hv; rcases hv with rfl <;> rfl) (by exact Nat.le_of_ble_eq_true rfl) hG rfl (fun X hl hg hX r0 σ0 hR => by subst hl; subst hg; exact jb_Teller_readWord hX hR this hthis)
def jl_Teller_wrong : List qm_I := [(0, .aload_n 0, 1, 1), (1, .getfield 42, 3, 4), (4, .iconst (-1), 1, 5), (5, .if_icmp .ne 13, 3, 8), (8, .aload_n 0, 1, 9), (9, .bipush 8, 2, 11), (11, .iload_n 1, 1, 12), (12, .imul, 1, 13), (13, .iload_n 2, 1, 14), (14, .iadd, 1, 15), (15, .putfield 42, 3, 18), (18, .return_, 1, 19)]
theorem jd_Teller_wrong : qm_D prog_8_method_17_code jl_Teller_wrong := qm_D_of (by decide +kernel)
noncomputable def jf_Teller_wrong (this : Nat) (p1 : Int32) (p2 : Int32) : qm_M Unit :=
  mB (mGt this 6) fun x1 =>
  if ¬ x1 = (-1) then
    mP ()
  else
    mB (mPt this 6 ((8 * p1) + p2)) fun _ =>
    mP ()
set_option maxRecDepth 20000 in
set_option maxHeartbeats 4000000 in
theorem jb_Teller_wrong {X : qm_X} (hX : qm_ok X qr_Teller prog_8_method_17_code 3 0 0 jl_Teller_wrong) {σ0 : qm_Mem} (hR : qm_RV X σ0) (this : Nat) (p1 : Int32) (p2 : Int32) (hthis : (qm_kd this).1 = 16) : qm_B X (jf_Teller_wrong this p1 p2) 0 [some (.ref (qx_ad X this)), some (.int p1), some (.int p2)] [] (fun _ σ1 => σ1 = σ0) := by
  unfold jf_Teller_wrong
  refine qb_aload_n hX 0 rfl rfl ?_
  refine qb_get hX 1 rfl fl_Teller_42 hthis rfl (fun x1 => ?_)
  refine qb_iconst hX 2 (-1) rfl (by decide) ?_
  refine qb_icne hX 3 18 rfl (by decide) ?_ ?_
  ·
    exact qb_vret hX 11 rfl hR (fun _ h => h)
  ·
    refine qb_aload_n hX 4 rfl rfl ?_
    refine qb_bipush hX 5 8 rfl (by decide) ?_
    refine qb_iload_n hX 6 rfl rfl ?_
    refine qb_imul hX 7 rfl ?_
    refine qb_iload_n hX 8 rfl rfl ?_
    refine qb_iadd hX 9 rfl ?_
    refine qb_put hX 10 rfl fp_Teller_42 hthis ?_
    exact qb_vret hX 11 rfl hR (fun _ h => h)
theorem jm_Teller_wrong {l : Launch} {G : qm_G} (hG : qm_GI G) (this : Nat) (p1 : Int32) (p2 : Int32) (hthis : (qm_kd this).1 = 16) : qm_MV l G jy_Teller_wrong prog_8_method_17_code 3 0 0 [.ref (G.1 this), .int p1, .int p2] (jf_Teller_wrong this p1 p2) :=
  qm_metV (by decide +kernel) jd_Teller_wrong (fun v hv => by simp only [List.mem_cons, List.not_mem_nil, or_false] at hv; rcases hv with rfl | rfl | rfl <;> rfl) (by exact Nat.le_of_ble_eq_true rfl) hG (fun X hl hg hX σ0 hR => by subst hl; subst hg; exact jb_Teller_wrong hX hR this p1 p2 hthis)
def jl_Teller_tellOnce : List qm_I := [(0, .aload_n 0, 1, 1), (1, .getfield 45, 3, 4), (4, .iload_n 1, 1, 5), (5, .ishr, 1, 6), (6, .iconst 1, 1, 7), (7, .iand, 1, 8), (8, .ifCond .eq 9, 3, 11), (11, .aload_n 0, 1, 12), (12, .iload_n 2, 1, 13), (13, .iconst 3, 1, 14), (14, .invokevirtual 58, 3, 17), (17, .aload_n 0, 1, 18), (18, .dup, 1, 19), (19, .getfield 45, 3, 22), (22, .iconst 1, 1, 23), (23, .iload_n 1, 1, 24), (24, .ishl, 1, 25), (25, .ior, 1, 26), (26, .putfield 45, 3, 29), (29, .return_, 1, 30)]
theorem jd_Teller_tellOnce : qm_D prog_8_method_14_code jl_Teller_tellOnce := qm_D_of (by decide +kernel)
noncomputable def jf_Teller_tellOnce (this : Nat) (p1 : Int32) (p2 : Int32) : qm_M Unit :=
  mB (mGt this 7) fun x1 =>
  mB (α := Unit) (
    if ((x1 >>> (p1 &&& 31)) &&& 1) = 0 then
      mP ()
    else
      mB (jf_Teller_wrong this p2 3) fun _ =>
      mP ()) fun s2 =>
  mB (mGt this 7) fun x3 =>
  mB (mPt this 7 (x3 ||| (1 <<< (p1 &&& 31)))) fun _ =>
  mP ()
set_option maxRecDepth 20000 in
set_option maxHeartbeats 4000000 in
theorem jb_Teller_tellOnce {X : qm_X} (hX : qm_ok X qr_Teller prog_8_method_14_code 3 1 22 jl_Teller_tellOnce) {σ0 : qm_Mem} (hR : qm_RV X σ0) (this : Nat) (p1 : Int32) (p2 : Int32) (hthis : (qm_kd this).1 = 16) : qm_B X (jf_Teller_tellOnce this p1 p2) 0 [some (.ref (qx_ad X this)), some (.int p1), some (.int p2)] [] (fun _ σ1 => σ1 = σ0) := by
  unfold jf_Teller_tellOnce
  refine qb_aload_n hX 0 rfl rfl ?_
  refine qb_get hX 1 rfl fl_Teller_45 hthis rfl (fun x1 => ?_)
  refine qb_iload_n hX 2 rfl rfl ?_
  refine qb_ishr hX 3 rfl ?_
  refine qb_iconst hX 4 1 rfl (by decide) ?_
  refine qb_iand hX 5 rfl ?_
  refine qb_join 17 (fun s2 => [some (.ref (qx_ad X this)), some (.int p1), none]) (fun s2 => []) ?_ ?_
  ·
    refine qb_ifeq hX 6 17 rfl (by decide) ?_ ?_
    ·
      exact qb_exit (fun σ h => qj_wk (ρ' := [some (.ref (qx_ad X this)), some (.int p1), none]) (qw_s (qw_s (qw_n (qw_0)))) h)
    ·
      refine qb_aload_n hX 7 rfl rfl ?_
      refine qb_iload_n hX 8 rfl rfl ?_
      refine qb_iconst hX 9 3 rfl (by decide) ?_
      refine qb_callV hX 10 rfl cv_Teller_58 (jm_Teller_wrong (qk_GI hX) this p2 3 hthis ) (ci := 6) hthis ⟨rfl, rfl, rfl, by decide, by decide⟩ rfl (by exact Nat.le_of_ble_eq_true rfl) ?_
      exact qb_exit (fun σ h => qj_wk (ρ' := [some (.ref (qx_ad X this)), some (.int p1), none]) (qw_s (qw_s (qw_n (qw_0)))) h)
  · intro s2
    refine qb_aload_n hX 11 rfl rfl ?_
    refine qb_dup hX 12 rfl rfl ?_
    refine qb_get hX 13 rfl fl_Teller_45 hthis rfl (fun x3 => ?_)
    refine qb_iconst hX 14 1 rfl (by decide) ?_
    refine qb_iload_n hX 15 rfl rfl ?_
    refine qb_ishl hX 16 rfl ?_
    refine qb_ior hX 17 rfl ?_
    refine qb_put hX 18 rfl fp_Teller_45 hthis ?_
    exact qb_vret hX 19 rfl hR (fun _ h => h)
theorem jm_Teller_tellOnce {l : Launch} {G : qm_G} (hG : qm_GI G) (this : Nat) (p1 : Int32) (p2 : Int32) (hthis : (qm_kd this).1 = 16) : qm_MV l G jy_Teller_tellOnce prog_8_method_14_code 3 1 22 [.ref (G.1 this), .int p1, .int p2] (jf_Teller_tellOnce this p1 p2) :=
  qm_metV (by decide +kernel) jd_Teller_tellOnce (fun v hv => by simp only [List.mem_cons, List.not_mem_nil, or_false] at hv; rcases hv with rfl | rfl | rfl <;> rfl) (by exact Nat.le_of_ble_eq_true rfl) hG (fun X hl hg hX σ0 hR => by subst hl; subst hg; exact jb_Teller_tellOnce hX hR this p1 p2 hthis)
