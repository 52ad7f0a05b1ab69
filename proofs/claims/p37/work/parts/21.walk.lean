def jl_Fitter_latest : List qm_I := [(0, .aload_n 0, 1, 1), (1, .getfield 15, 3, 4), (4, .getfield 93, 3, 7), (7, .iload_n 1, 1, 8), (8, .invokestatic 78, 3, 11), (11, .istore 6, 2, 13), (13, .iload 6, 2, 15), (15, .iload_n 2, 1, 16), (16, .if_icmp .lt 61, 3, 19), (19, .aload_n 0, 1, 20), (20, .getfield 15, 3, 23), (23, .iload 6, 2, 25), (25, .invokevirtual 128, 3, 28), (28, .ifCond .eq 43, 3, 31), (31, .aload_n 0, 1, 32), (32, .iload_n 2, 1, 33), (33, .iload 6, 2, 35), (35, .iload_n 3, 1, 36), (36, .iload 4, 2, 38), (38, .invokevirtual 132, 3, 41), (41, .istore 7, 2, 43), (43, .iload 7, 2, 45), (45, .iconst (-1), 1, 46), (46, .if_icmp .eq 25, 3, 49), (49, .iload 5, 2, 51), (51, .iconst (-1), 1, 52), (52, .if_icmp .eq 16, 3, 55), (55, .iload 7, 2, 57), (57, .aload_n 0, 1, 58), (58, .iload 5, 2, 60), (60, .iload 6, 2, 62), (62, .invokevirtual 82, 3, 65), (65, .if_icmp .gt 6, 3, 68), (68, .iload 6, 2, 70), (70, .ireturn, 1, 71), (71, .iinc 6 (-1), 3, 74), (74, .goto (-61), 3, 77), (77, .iconst (-1), 1, 78), (78, .ireturn, 1, 79)]
theorem jd_Fitter_latest : qm_D prog_2_method_12_code jl_Fitter_latest := qm_D_of (by decide +kernel)
noncomputable def jf_Fitter_latest (this : Nat) (p1 : Int32) (p2 : Int32) (p3 : Int32) (p4 : Int32) (p5 : Int32) : qm_M Int32 :=
  mB (jf_Top_at (qm_rf (qm_rf this 1) 17) p1) fun x1 =>
  mB (α := (Int32 ⊕ Int32)) (
    mB (α := (Unit ⊕ (Int32 ⊕ Int32))) (
      mW (S := Int32) (α := (Unit ⊕ (Int32 ⊕ Int32))) (fun s4 =>
        if s4 < p2 then
          mP (Sum.inr (Sum.inl ()))
        else
          mB (jf_Flow_mayEnd (qm_rf this 1) s4) fun x5 =>
          mB (α := (Unit ⊕ (Int32 ⊕ (Unit ⊕ (Int32 ⊕ Int32))))) (
            if x5 = 0 then
              mP (Sum.inl ())
            else
              mB (jf_Fitter_leftOver this p2 s4 p3 p4) fun x7 =>
              if x7 = (-1) then
                mP (Sum.inl ())
              else
                if p5 = (-1) then
                  mP (Sum.inr (Sum.inr (Sum.inr (Sum.inl s4))))
                else
                  mB (jf_Fitter_bearsAt this p5 s4) fun x8 =>
                  if x8 < x7 then
                    mP (Sum.inl ())
                  else
                    mP (Sum.inr (Sum.inr (Sum.inr (Sum.inl s4))))) (Sum.elim (fun s6 =>
            mB (mP (s4 + (-1))) fun x9 =>
            mP (Sum.inl x9)) mP)) x1) (Sum.elim (fun s3 =>
      mP (Sum.inr (-1))) mP)) (Sum.elim (fun s2 =>
    mP s2) mP)
set_option maxRecDepth 20000 in
set_option maxHeartbeats 4000000 in
theorem jb_Fitter_latest {X : qm_X} (hX : qm_ok X qr_Fitter prog_2_method_12_code 8 2 50 jl_Fitter_latest) {r0 : Int32} {σ0 : qm_Mem} (hR : qm_RI X r0 σ0 .int) (this : Nat) (p1 : Int32) (p2 : Int32) (p3 : Int32) (p4 : Int32) (p5 : Int32) (hthis : (qm_kd this).1 = 10) : qm_B X (jf_Fitter_latest this p1 p2 p3 p4 p5) 0 [some (.ref (qx_ad X this)), some (.int p1), some (.int p2), some (.int p3), some (.int p4), some (.int p5), none, none] [] (fun r σ1 => r = r0 ∧ σ1 = σ0) := by
  unfold jf_Fitter_latest
  refine qb_aload_n hX 0 rfl rfl ?_
  refine qb_getR hX 1 rfl fl_Fitter_15 hthis rfl ?_
  refine qb_getR hX 2 rfl fl_Fitter_93 (kf_Fitter_1 hthis) rfl ?_
  refine qb_iload_n hX 3 rfl rfl ?_
  refine qb_calNI hX 4 rfl cv_Fitter_78 (jm_Top_at (qk_GI hX) (qm_rf (qm_rf this 1) 17) p1 (kf_Flow_17 (kf_Fitter_1 hthis))) ⟨rfl, by decide, by decide⟩ rfl (by exact Nat.le_of_ble_eq_true rfl) (fun x1 => ?_)
  refine qb_istore hX 5 ([some (.ref (qx_ad X this)), some (.int p1), some (.int p2), some (.int p3), some (.int p4), some (.int p5), some (.int x1), none]) rfl (by decide) rfl ?_
  refine qb_join2 68 (fun s2 => [none, none, none, none, none, none, some (.int s2), none]) (fun s2 => []) ?_ ?_
  ·
    refine qb_join2 77 (fun s3 => [none, none, none, none, none, none, none, none]) (fun s3 => []) ?_ ?_
    ·
      refine qb_loopw (x1) (fun s4 => [some (.ref (qx_ad X this)), none, some (.int p2), some (.int p3), some (.int p4), some (.int p5), some (.int s4), none]) (qw_s (qw_n (qw_s (qw_s (qw_s (qw_s (qw_s (qw_n (qw_0))))))))) (fun s4 => ?_)
      refine qb_iload hX 6 rfl rfl ?_
      refine qb_iload_n hX 7 rfl rfl ?_
      refine qb_iclt hX 8 77 rfl (by decide) ?_ ?_
      ·
        exact qb_exit (fun σ h => qj_wk (ρ' := [none, none, none, none, none, none, none, none]) (qw_n (qw_n (qw_n (qw_n (qw_n (qw_n (qw_n (qw_n (qw_0))))))))) h)
      ·
        refine qb_aload_n hX 9 rfl rfl ?_
        refine qb_getR hX 10 rfl fl_Fitter_15 hthis rfl ?_
        refine qb_iload hX 11 rfl rfl ?_
        refine qb_callI hX 12 rfl cv_Fitter_128 (jm_Flow_mayEnd (qk_GI hX) (qm_rf this 1) s4 (kf_Fitter_1 hthis) ) (ci := 1) (kf_Fitter_1 hthis) ⟨rfl, rfl, rfl, by decide, by decide⟩ rfl (by exact Nat.le_of_ble_eq_true rfl) (fun x5 => ?_)
        refine qb_join2 71 (fun s6 => [some (.ref (qx_ad X this)), none, some (.int p2), some (.int p3), some (.int p4), some (.int p5), some (.int s4), none]) (fun s6 => []) ?_ ?_
        ·
          refine qb_ifeq hX 13 71 rfl (by decide) ?_ ?_
          ·
            exact qb_exit (fun σ h => qj_wk (ρ' := [some (.ref (qx_ad X this)), none, some (.int p2), some (.int p3), some (.int p4), some (.int p5), some (.int s4), none]) (qw_s (qw_n (qw_s (qw_s (qw_s (qw_s (qw_s (qw_n (qw_0))))))))) h)
          ·
            refine qb_aload_n hX 14 rfl rfl ?_
            refine qb_iload_n hX 15 rfl rfl ?_
            refine qb_iload hX 16 rfl rfl ?_
            refine qb_iload_n hX 17 rfl rfl ?_
            refine qb_iload hX 18 rfl rfl ?_
            refine qb_callI hX 19 rfl cv_Fitter_132 (jm_Fitter_leftOver (qk_GI hX) this p2 s4 p3 p4 hthis ) (ci := 0) hthis ⟨rfl, rfl, rfl, by decide, by decide⟩ rfl (by exact Nat.le_of_ble_eq_true rfl) (fun x7 => ?_)
            refine qb_istore hX 20 ([some (.ref (qx_ad X this)), none, some (.int p2), some (.int p3), some (.int p4), some (.int p5), some (.int s4), some (.int x7)]) rfl (by decide) rfl ?_
            refine qb_iload hX 21 rfl rfl ?_
            refine qb_iconst hX 22 (-1) rfl (by decide) ?_
            refine qb_iceq hX 23 71 rfl (by decide) ?_ ?_
            ·
              exact qb_exit (fun σ h => qj_wk (ρ' := [some (.ref (qx_ad X this)), none, some (.int p2), some (.int p3), some (.int p4), some (.int p5), some (.int s4), none]) (qw_s (qw_n (qw_s (qw_s (qw_s (qw_s (qw_s (qw_n (qw_0))))))))) h)
            ·
              refine qb_iload hX 24 rfl rfl ?_
              refine qb_iconst hX 25 (-1) rfl (by decide) ?_
              refine qb_iceq hX 26 68 rfl (by decide) ?_ ?_
              ·
                exact qb_exit (fun σ h => qj_wk (ρ' := [none, none, none, none, none, none, some (.int s4), none]) (qw_n (qw_n (qw_n (qw_n (qw_n (qw_n (qw_s (qw_n (qw_0))))))))) h)
              ·
                refine qb_iload hX 27 rfl rfl ?_
                refine qb_aload_n hX 28 rfl rfl ?_
                refine qb_iload hX 29 rfl rfl ?_
                refine qb_iload hX 30 rfl rfl ?_
                refine qb_callI hX 31 rfl cv_Fitter_82 (jm_Fitter_bearsAt (qk_GI hX) this p5 s4 hthis ) (ci := 0) hthis ⟨rfl, rfl, rfl, by decide, by decide⟩ rfl (by exact Nat.le_of_ble_eq_true rfl) (fun x8 => ?_)
                refine qb_icgt hX 32 71 rfl (by decide) ?_ ?_
                ·
                  exact qb_exit (fun σ h => qj_wk (ρ' := [some (.ref (qx_ad X this)), none, some (.int p2), some (.int p3), some (.int p4), some (.int p5), some (.int s4), none]) (qw_s (qw_n (qw_s (qw_s (qw_s (qw_s (qw_s (qw_n (qw_0))))))))) h)
                ·
                  exact qb_exit (fun σ h => qj_wk (ρ' := [none, none, none, none, none, none, some (.int s4), none]) (qw_n (qw_n (qw_n (qw_n (qw_n (qw_n (qw_s (qw_n (qw_0))))))))) h)
        · intro s6
          refine qb_iinc hX 35 (-1) (fun x9 => [some (.ref (qx_ad X this)), none, some (.int p2), some (.int p3), some (.int p4), some (.int p5), some (.int x9), none]) rfl (by decide) (by decide) rfl (fun _ => rfl) (fun x9 => ?_)
          exact qb_exit (fun σ h => qj_goto hX 36 rfl (by decide) (qj_wk (ρ' := [some (.ref (qx_ad X this)), none, some (.int p2), some (.int p3), some (.int p4), some (.int p5), some (.int x9), none]) (qw_s (qw_n (qw_s (qw_s (qw_s (qw_s (qw_s (qw_n (qw_0))))))))) h))
    · intro s3
      refine qb_iconst hX 37 (-1) rfl (by decide) ?_
      exact qb_iret hX 38 rfl hR (fun _ h => h)
  · intro s2
    refine qb_iload hX 33 rfl rfl ?_
    exact qb_iret hX 34 rfl hR (fun _ h => h)
theorem jm_Fitter_latest {l : Launch} {G : qm_G} (hG : qm_GI G) (this : Nat) (p1 : Int32) (p2 : Int32) (p3 : Int32) (p4 : Int32) (p5 : Int32) (hthis : (qm_kd this).1 = 10) : qm_MI l G jy_Fitter_latest prog_2_method_12_code 8 (some .int) 2 50 [.ref (G.1 this), .int p1, .int p2, .int p3, .int p4, .int p5] (jf_Fitter_latest this p1 p2 p3 p4 p5) :=
  qm_metI (by decide +kernel) jd_Fitter_latest (fun v hv => by simp only [List.mem_cons, List.not_mem_nil, or_false] at hv; rcases hv with rfl | rfl | rfl | rfl | rfl | rfl <;> rfl) (by exact Nat.le_of_ble_eq_true rfl) hG rfl (fun X hl hg hX r0 σ0 hR => by subst hl; subst hg; exact jb_Fitter_latest hX hR this p1 p2 p3 p4 p5 hthis)
def jl_Flow_openSection : List qm_I := [(0, .aload_n 0, 1, 1), (1, .getfield 69, 3, 4), (4, .bipush 17, 2, 6), (6, .if_icmp .ge 49, 3, 9), (9, .aload_n 0, 1, 10), (10, .getfield 53, 3, 13), (13, .aload_n 0, 1, 14), (14, .getfield 69, 3, 17), (17, .aload_n 0, 1, 18), (18, .getfield 65, 3, 21), (21, .iastore, 1, 22), (22, .aload_n 0, 1, 23), (23, .getfield 56, 3, 26), (26, .aload_n 0, 1, 27), (27, .getfield 69, 3, 30), (30, .aload_n 0, 1, 31), (31, .getfield 65, 3, 34), (34, .iastore, 1, 35), (35, .aload_n 0, 1, 36), (36, .getfield 59, 3, 39), (39, .aload_n 0, 1, 40), (40, .getfield 69, 3, 43), (43, .iload_n 1, 1, 44), (44, .iastore, 1, 45), (45, .aload_n 0, 1, 46), (46, .dup, 1, 47), (47, .getfield 69, 3, 50), (50, .iconst 1, 1, 51), (51, .iadd, 1, 52), (52, .putfield 69, 3, 55), (55, .return_, 1, 56)]
theorem jd_Flow_openSection : qm_D prog_3_method_3_code jl_Flow_openSection := qm_D_of (by decide +kernel)
noncomputable def jf_Flow_openSection (this : Nat) (p1 : Int32) : qm_M Unit :=
  mB (mGt this 1) fun x1 =>
  if 17 ≤ x1 then
    mP ()
  else
    mB (mGt this 1) fun x2 =>
    mB (mGt this 0) fun x3 =>
    mB (mSt (qm_rf this 16) x2 x3) fun _ =>
    mB (mGt this 1) fun x4 =>
    mB (mGt this 0) fun x5 =>
    mB (mSt (qm_rf this 17) x4 x5) fun _ =>
    mB (mGt this 1) fun x6 =>
    mB (mSt (qm_rf this 18) x6 p1) fun _ =>
    mB (mGt this 1) fun x7 =>
    mB (mPt this 1 (x7 + 1)) fun _ =>
    mP ()
set_option maxRecDepth 20000 in
set_option maxHeartbeats 4000000 in
theorem jb_Flow_openSection {X : qm_X} (hX : qm_ok X qr_Flow prog_3_method_3_code 2 0 0 jl_Flow_openSection) {σ0 : qm_Mem} (hR : qm_RV X σ0) (this : Nat) (p1 : Int32) (hthis : (qm_kd this).1 = 11) : qm_B X (jf_Flow_openSection this p1) 0 [some (.ref (qx_ad X this)), some (.int p1)] [] (fun _ σ1 => σ1 = σ0) := by
  unfold jf_Flow_openSection
  refine qb_aload_n hX 0 rfl rfl ?_
  refine qb_get hX 1 rfl fl_Flow_69 hthis rfl (fun x1 => ?_)
  refine qb_bipush hX 2 17 rfl (by decide) ?_
  refine qb_icge hX 3 55 rfl (by decide) ?_ ?_
  ·
    exact qb_vret hX 30 rfl hR (fun _ h => h)
  ·
    refine qb_aload_n hX 4 rfl rfl ?_
    refine qb_getR hX 5 rfl fl_Flow_53 hthis rfl ?_
    refine qb_aload_n hX 6 rfl rfl ?_
    refine qb_get hX 7 rfl fl_Flow_69 hthis rfl (fun x2 => ?_)
    refine qb_aload_n hX 8 rfl rfl ?_
    refine qb_get hX 9 rfl fl_Flow_65 hthis rfl (fun x3 => ?_)
    refine qb_iast hX 10 rfl (kf_Flow_16 hthis) ?_
    refine qb_aload_n hX 11 rfl rfl ?_
    refine qb_getR hX 12 rfl fl_Flow_56 hthis rfl ?_
    refine qb_aload_n hX 13 rfl rfl ?_
    refine qb_get hX 14 rfl fl_Flow_69 hthis rfl (fun x4 => ?_)
    refine qb_aload_n hX 15 rfl rfl ?_
    refine qb_get hX 16 rfl fl_Flow_65 hthis rfl (fun x5 => ?_)
    refine qb_iast hX 17 rfl (kf_Flow_17 hthis) ?_
    refine qb_aload_n hX 18 rfl rfl ?_
    refine qb_getR hX 19 rfl fl_Flow_59 hthis rfl ?_
    refine qb_aload_n hX 20 rfl rfl ?_
    refine qb_get hX 21 rfl fl_Flow_69 hthis rfl (fun x6 => ?_)
    refine qb_iload_n hX 22 rfl rfl ?_
    refine qb_iast hX 23 rfl (kf_Flow_18 hthis) ?_
    refine qb_aload_n hX 24 rfl rfl ?_
    refine qb_dup hX 25 rfl rfl ?_
    refine qb_get hX 26 rfl fl_Flow_69 hthis rfl (fun x7 => ?_)
    refine qb_iconst hX 27 1 rfl (by decide) ?_
    refine qb_iadd hX 28 rfl ?_
    refine qb_put hX 29 rfl fp_Flow_69 hthis ?_
    exact qb_vret hX 30 rfl hR (fun _ h => h)
theorem jm_Flow_openSection {l : Launch} {G : qm_G} (hG : qm_GI G) (this : Nat) (p1 : Int32) (hthis : (qm_kd this).1 = 11) : qm_MV l G jy_Flow_openSection prog_3_method_3_code 2 0 0 [.ref (G.1 this), .int p1] (jf_Flow_openSection this p1) :=
  qm_metV (by decide +kernel) jd_Flow_openSection (fun v hv => by simp only [List.mem_cons, List.not_mem_nil, or_false] at hv; rcases hv with rfl | rfl <;> rfl) (by exact Nat.le_of_ble_eq_true rfl) hG (fun X hl hg hX σ0 hR => by subst hl; subst hg; exact jb_Flow_openSection hX hR this p1 hthis)
def jl_Run_cell : List qm_I := [(0, .iload_n 1, 1, 1), (1, .ifCond .lt 19, 3, 4), (4, .iload_n 1, 1, 5), (5, .bipush 16, 2, 7), (7, .if_icmp .ge 13, 3, 10), (10, .iload_n 2, 1, 11), (11, .ifCond .lt 9, 3, 14), (14, .iload_n 2, 1, 15), (15, .bipush 16, 2, 17), (17, .if_icmp .lt 5, 3, 20), (20, .iconst 0, 1, 21), (21, .ireturn, 1, 22), (22, .aload_n 0, 1, 23), (23, .getfield 15, 3, 26), (26, .iload_n 1, 1, 27), (27, .bipush 16, 2, 29), (29, .imul, 1, 30), (30, .iload_n 2, 1, 31), (31, .iadd, 1, 32), (32, .iaload, 1, 33), (33, .ireturn, 1, 34)]
theorem jd_Run_cell : qm_D prog_6_method_9_code jl_Run_cell := qm_D_of (by decide +kernel)
noncomputable def jf_Run_cell (this : Nat) (p1 : Int32) (p2 : Int32) : qm_M Int32 :=
  if p1 < 0 then
    mP 0
  else
    if 16 ≤ p1 then
      mP 0
    else
      if p2 < 0 then
        mP 0
      else
        if p2 < 16 then
          mB (mLd (qm_rf this 2) ((p1 * 16) + p2)) fun x1 =>
          mP x1
        else
          mP 0
set_option maxRecDepth 20000 in
set_option maxHeartbeats 4000000 in
theorem jb_Run_cell {X : qm_X} (hX : qm_ok X qr_Run prog_6_method_9_code 3 0 0 jl_Run_cell) {r0 : Int32} {σ0 : qm_Mem} (hR : qm_RI X r0 σ0 .int) (this : Nat) (p1 : Int32) (p2 : Int32) (hthis : (qm_kd this).1 = 14) : qm_B X (jf_Run_cell this p1 p2) 0 [some (.ref (qx_ad X this)), some (.int p1), some (.int p2)] [] (fun r σ1 => r = r0 ∧ σ1 = σ0) := by
  unfold jf_Run_cell
  refine qb_iload_n hX 0 rfl rfl ?_
  refine qb_iflt hX 1 20 rfl (by decide) ?_ ?_
  ·
    refine qb_iconst hX 10 0 rfl (by decide) ?_
    exact qb_iret hX 11 rfl hR (fun _ h => h)
  ·
    refine qb_iload_n hX 2 rfl rfl ?_
    refine qb_bipush hX 3 16 rfl (by decide) ?_
    refine qb_icge hX 4 20 rfl (by decide) ?_ ?_
    ·
      refine qb_iconst hX 10 0 rfl (by decide) ?_
      exact qb_iret hX 11 rfl hR (fun _ h => h)
    ·
      refine qb_iload_n hX 5 rfl rfl ?_
      refine qb_iflt hX 6 20 rfl (by decide) ?_ ?_
      ·
        refine qb_iconst hX 10 0 rfl (by decide) ?_
        exact qb_iret hX 11 rfl hR (fun _ h => h)
      ·
        refine qb_iload_n hX 7 rfl rfl ?_
        refine qb_bipush hX 8 16 rfl (by decide) ?_
        refine qb_iclt hX 9 22 rfl (by decide) ?_ ?_
        ·
          refine qb_aload_n hX 12 rfl rfl ?_
          refine qb_getR hX 13 rfl fl_Run_15 hthis rfl ?_
          refine qb_iload_n hX 14 rfl rfl ?_
          refine qb_bipush hX 15 16 rfl (by decide) ?_
          refine qb_imul hX 16 rfl ?_
          refine qb_iload_n hX 17 rfl rfl ?_
          refine qb_iadd hX 18 rfl ?_
          refine qb_iald hX 19 rfl (kf_Run_2 hthis) (fun x1 => ?_)
          exact qb_iret hX 20 rfl hR (fun _ h => h)
        ·
          refine qb_iconst hX 10 0 rfl (by decide) ?_
          exact qb_iret hX 11 rfl hR (fun _ h => h)
theorem jm_Run_cell {l : Launch} {G : qm_G} (hG : qm_GI G) (this : Nat) (p1 : Int32) (p2 : Int32) (hthis : (qm_kd this).1 = 14) : qm_MI l G jy_Run_cell prog_6_method_9_code 3 (some .int) 0 0 [.ref (G.1 this), .int p1, .int p2] (jf_Run_cell this p1 p2) :=
  qm_metI (by decide +kernel) jd_Run_cell (fun v hv => by simp only [List.mem_cons, List.not_mem_nil, or_false] at hv; rcases hv with rfl | rfl | rfl <;> rfl) (by exact Nat.le_of_ble_eq_true rfl) hG rfl (fun X hl hg hX r0 σ0 hR => by subst hl; subst hg; exact jb_Run_cell hX hR this p1 p2 hthis)
def jl_Run_noteAt : List qm_I := [(0, .aload_n 0, 1, 1), (1, .iload_n 1, 1, 2), (2, .bipush 7, 2, 4), (4, .invokevirtual 42, 3, 7), (7, .istore_n 3, 1, 8), (8, .iconst 0, 1, 9), (9, .istore 4, 2, 11), (11, .iload 4, 2, 13), (13, .iload_n 3, 1, 14), (14, .if_icmp .ge 40, 3, 17), (17, .iload 4, 2, 19), (19, .iconst 4, 1, 20), (20, .if_icmp .ge 34, 3, 23), (23, .aload_n 0, 1, 24), (24, .iload_n 1, 1, 25), (25, .bipush 8, 2, 27), (27, .iload 4, 2, 29), (29, .iadd, 1, 30), (30, .invokevirtual 42, 3, 33), (33, .iload_n 2, 1, 34), (34, .if_icmp .ne 14, 3, 37), (37, .aload_n 0, 1, 38), (38, .iload_n 1, 1, 39), (39, .bipush 12, 2, 41), (41, .iload 4, 2, 43), (43, .iadd, 1, 44), (44, .invokevirtual 42, 3, 47), (47, .ireturn, 1, 48), (48, .iinc 4 1, 3, 51), (51, .goto (-40), 3, 54), (54, .iconst 0, 1, 55), (55, .ireturn, 1, 56)]
theorem jd_Run_noteAt : qm_D prog_6_method_17_code jl_Run_noteAt := qm_D_of (by decide +kernel)
noncomputable def jf_Run_noteAt (this : Nat) (p1 : Int32) (p2 : Int32) : qm_M Int32 :=
  mB (jf_Run_cell this p1 7) fun x1 =>
  mB (α := (Int32 ⊕ Int32)) (
    mB (α := (Unit ⊕ (Int32 ⊕ Int32))) (
      mW (S := Int32) (α := (Unit ⊕ (Int32 ⊕ Int32))) (fun s4 =>
        if x1 ≤ s4 then
          mP (Sum.inr (Sum.inl ()))
        else
          if 4 ≤ s4 then
            mP (Sum.inr (Sum.inl ()))
          else
            mB (jf_Run_cell this p1 (8 + s4)) fun x5 =>
            if ¬ x5 = p2 then
              mB (mP (s4 + 1)) fun x6 =>
              mP (Sum.inl x6)
            else
              mP (Sum.inr (Sum.inr (Sum.inl s4)))) 0) (Sum.elim (fun s3 =>
      mP (Sum.inr 0)) mP)) (Sum.elim (fun s2 =>
    mB (jf_Run_cell this p1 (12 + s2)) fun x7 =>
    mP x7) mP)
set_option maxRecDepth 20000 in
set_option maxHeartbeats 4000000 in
theorem jb_Run_noteAt {X : qm_X} (hX : qm_ok X qr_Run prog_6_method_17_code 5 1 22 jl_Run_noteAt) {r0 : Int32} {σ0 : qm_Mem} (hR : qm_RI X r0 σ0 .int) (this : Nat) (p1 : Int32) (p2 : Int32) (hthis : (qm_kd this).1 = 14) : qm_B X (jf_Run_noteAt this p1 p2) 0 [some (.ref (qx_ad X this)), some (.int p1), some (.int p2), none, none] [] (fun r σ1 => r = r0 ∧ σ1 = σ0) := by
  unfold jf_Run_noteAt
  refine qb_aload_n hX 0 rfl rfl ?_
  refine qb_iload_n hX 1 rfl rfl ?_
  refine qb_bipush hX 2 7 rfl (by decide) ?_
  refine qb_callI hX 3 rfl cv_Run_42 (jm_Run_cell (qk_GI hX) this p1 7 hthis ) (ci := 4) hthis ⟨rfl, rfl, rfl, by decide, by decide⟩ rfl (by exact Nat.le_of_ble_eq_true rfl) (fun x1 => ?_)
  refine qb_istore_n hX 4 ([some (.ref (qx_ad X this)), some (.int p1), some (.int p2), some (.int x1), none]) rfl (by decide) rfl ?_
  refine qb_iconst hX 5 0 rfl (by decide) ?_
  refine qb_istore hX 6 ([some (.ref (qx_ad X this)), some (.int p1), some (.int p2), some (.int x1), some (.int 0)]) rfl (by decide) rfl ?_
  refine qb_join2 37 (fun s2 => [some (.ref (qx_ad X this)), some (.int p1), none, none, some (.int s2)]) (fun s2 => []) ?_ ?_
  ·
    refine qb_join2 54 (fun s3 => [none, none, none, none, none]) (fun s3 => []) ?_ ?_
    ·
      refine qb_loopw (0) (fun s4 => [some (.ref (qx_ad X this)), some (.int p1), some (.int p2), some (.int x1), some (.int s4)]) (qw_s (qw_s (qw_s (qw_s (qw_s (qw_0)))))) (fun s4 => ?_)
      refine qb_iload hX 7 rfl rfl ?_
      refine qb_iload_n hX 8 rfl rfl ?_
      refine qb_icge hX 9 54 rfl (by decide) ?_ ?_
      ·
        exact qb_exit (fun σ h => qj_wk (ρ' := [none, none, none, none, none]) (qw_n (qw_n (qw_n (qw_n (qw_n (qw_0)))))) h)
      ·
        refine qb_iload hX 10 rfl rfl ?_
        refine qb_iconst hX 11 4 rfl (by decide) ?_
        refine qb_icge hX 12 54 rfl (by decide) ?_ ?_
        ·
          exact qb_exit (fun σ h => qj_wk (ρ' := [none, none, none, none, none]) (qw_n (qw_n (qw_n (qw_n (qw_n (qw_0)))))) h)
        ·
          refine qb_aload_n hX 13 rfl rfl ?_
          refine qb_iload_n hX 14 rfl rfl ?_
          refine qb_bipush hX 15 8 rfl (by decide) ?_
          refine qb_iload hX 16 rfl rfl ?_
          refine qb_iadd hX 17 rfl ?_
          refine qb_callI hX 18 rfl cv_Run_42 (jm_Run_cell (qk_GI hX) this p1 (8 + s4) hthis ) (ci := 4) hthis ⟨rfl, rfl, rfl, by decide, by decide⟩ rfl (by exact Nat.le_of_ble_eq_true rfl) (fun x5 => ?_)
          refine qb_iload_n hX 19 rfl rfl ?_
          refine qb_icne hX 20 48 rfl (by decide) ?_ ?_
          ·
            refine qb_iinc hX 28 1 (fun x6 => [some (.ref (qx_ad X this)), some (.int p1), some (.int p2), some (.int x1), some (.int x6)]) rfl (by decide) (by decide) rfl (fun _ => rfl) (fun x6 => ?_)
            exact qb_exit (fun σ h => qj_goto hX 29 rfl (by decide) (qj_wk (ρ' := [some (.ref (qx_ad X this)), some (.int p1), some (.int p2), some (.int x1), some (.int x6)]) (qw_s (qw_s (qw_s (qw_s (qw_s (qw_0)))))) h))
          ·
            exact qb_exit (fun σ h => qj_wk (ρ' := [some (.ref (qx_ad X this)), some (.int p1), none, none, some (.int s4)]) (qw_s (qw_s (qw_n (qw_n (qw_s (qw_0)))))) h)
    · intro s3
      refine qb_iconst hX 30 0 rfl (by decide) ?_
      exact qb_iret hX 31 rfl hR (fun _ h => h)
  · intro s2
    refine qb_aload_n hX 21 rfl rfl ?_
    refine qb_iload_n hX 22 rfl rfl ?_
    refine qb_bipush hX 23 12 rfl (by decide) ?_
    refine qb_iload hX 24 rfl rfl ?_
    refine qb_iadd hX 25 rfl ?_
    refine qb_callI hX 26 rfl cv_Run_42 (jm_Run_cell (qk_GI hX) this p1 (12 + s2) hthis ) (ci := 4) hthis ⟨rfl, rfl, rfl, by decide, by decide⟩ rfl (by exact Nat.le_of_ble_eq_true rfl) (fun x7 => ?_)
    exact qb_iret hX 27 rfl hR (fun _ h => h)
theorem jm_Run_noteAt {l : Launch} {G : qm_G} (hG : qm_GI G) (this : Nat) (p1 : Int32) (p2 : Int32) (hthis : (qm_kd this).1 = 14) : qm_MI l G jy_Run_noteAt prog_6_method_17_code 5 (some .int) 1 22 [.ref (G.1 this), .int p1, .int p2] (jf_Run_noteAt this p1 p2) :=
  qm_metI (by decide +kernel) jd_Run_noteAt (fun v hv => by simp only [List.mem_cons, List.not_mem_nil, or_false] at hv; rcases hv with rfl | rfl | rfl <;> rfl) (by exact Nat.le_of_ble_eq_true rfl) hG rfl (fun X hl hg hX r0 σ0 hR => by subst hl; subst hg; exact jb_Run_noteAt hX hR this p1 p2 hthis)
def jl_Flow_layPieces : List qm_I := [(0, .aload_n 0, 1, 1), (1, .getfield 9, 3, 4), (4, .iload_n 1, 1, 5), (5, .iconst 1, 1, 6), (6, .invokevirtual 84, 3, 9), (9, .istore_n 2, 1, 10), (10, .aload_n 0, 1, 11), (11, .getfield 9, 3, 14), (14, .iload_n 1, 1, 15), (15, .iconst 2, 1, 16), (16, .invokevirtual 84, 3, 19), (19, .istore_n 3, 1, 20), (20, .aload_n 0, 1, 21), (21, .getfield 9, 3, 24), (24, .iload_n 1, 1, 25), (25, .iconst 3, 1, 26), (26, .invokevirtual 84, 3, 29), (29, .istore 4, 2, 31), (31, .aload_n 0, 1, 32), (32, .getfield 69, 3, 35), (35, .iconst 1, 1, 36), (36, .isub, 1, 37), (37, .istore 5, 2, 39), (39, .iconst 0, 1, 40), (40, .istore 6, 2, 42), (42, .iload 6, 2, 44), (44, .iload_n 2, 1, 45), (45, .if_icmp .ge 292, 3, 48), (48, .aload_n 0, 1, 49), (49, .getfield 65, 3, 52), (52, .ifCond .lt 285, 3, 55), (55, .aload_n 0, 1, 56), (56, .getfield 65, 3, 59), (59, .bipush 90, 2, 61), (61, .if_icmp .ge 276, 3, 64), (64, .aload_n 0, 1, 65), (65, .getfield 9, 3, 68), (68, .iload_n 1, 1, 69), (69, .iload 6, 2, 71), (71, .iconst 1, 1, 72), (72, .iadd, 1, 73), (73, .invokevirtual 94, 3, 76), (76, .istore 7, 2, 78), (78, .aload_n 0, 1, 79), (79, .getfield 19, 3, 82), (82, .aload_n 0, 1, 83), (83, .getfield 65, 3, 86), (86, .iload_n 1, 1, 87), (87, .iastore, 1, 88), (88, .aload_n 0, 1, 89), (89, .getfield 22, 3, 92), (92, .aload_n 0, 1, 93), (93, .getfield 65, 3, 96), (96, .iload 6, 2, 98), (98, .iastore, 1, 99), (99, .aload_n 0, 1, 100), (100, .getfield 25, 3, 103), (103, .aload_n 0, 1, 104), (104, .getfield 65, 3, 107), (107, .iload 6, 2, 109), (109, .ifCond .ne 10, 3, 112), (112, .iload_n 3, 1, 113), (113, .iload 4, 2, 115), (115, .iadd, 1, 116), (116, .goto 4, 3, 119), (119, .iload_n 3, 1, 120), (120, .iastore, 1, 121), (121, .aload_n 0, 1, 122), (122, .getfield 28, 3, 125), (125, .aload_n 0, 1, 126), (126, .getfield 65, 3, 129), (129, .iload 6, 2, 131), (131, .ifCond .ne 16, 3, 134), (134, .aload_n 0, 1, 135), (135, .getfield 9, 3, 138), (138, .iload_n 1, 1, 139), (139, .bipush 6, 2, 141), (141, .invokevirtual 84, 3, 144), (144, .goto 4, 3, 147), (147, .iconst 0, 1, 148), (148, .iastore, 1, 149), (149, .aload_n 0, 1, 150), (150, .getfield 31, 3, 153), (153, .aload_n 0, 1, 154), (154, .getfield 65, 3, 157), (157, .iload 7, 2, 159), (159, .iastore, 1, 160), (160, .aload_n 0, 1, 161), (161, .getfield 34, 3, 164), (164, .aload_n 0, 1, 165), (165, .getfield 65, 3, 168), (168, .iload 5, 2, 170), (170, .iastore, 1, 171), (171, .aload_n 0, 1, 172), (172, .getfield 37, 3, 175), (175, .aload_n 0, 1, 176), (176, .getfield 65, 3, 179), (179, .iload 6, 2, 181), (181, .ifCond .ne 7, 3, 184), (184, .iconst 0, 1, 185), (185, .goto 5, 3, 188), (188, .iload 4, 2, 190), (190, .iastore, 1, 191), (191, .aload_n 0, 1, 192), (192, .getfield 40, 3, 195), (195, .aload_n 0, 1, 196), (196, .getfield 65, 3, 199), (199, .iconst 1, 1, 200), (200, .iadd, 1, 201), (201, .aload_n 0, 1, 202), (202, .getfield 40, 3, 205), (205, .aload_n 0, 1, 206), (206, .getfield 65, 3, 209), (209, .iaload, 1, 210), (210, .aload_n 0, 1, 211), (211, .getfield 25, 3, 214), (214, .aload_n 0, 1, 215), (215, .getfield 65, 3, 218), (218, .iaload, 1, 219), (219, .iadd, 1, 220), (220, .aload_n 0, 1, 221), (221, .getfield 28, 3, 224), (224, .aload_n 0, 1, 225), (225, .getfield 65, 3, 228), (228, .iaload, 1, 229), (229, .iadd, 1, 230), (230, .iastore, 1, 231), (231, .aload_n 0, 1, 232), (232, .getfield 43, 3, 235), (235, .aload_n 0, 1, 236), (236, .getfield 65, 3, 239), (239, .iconst 1, 1, 240), (240, .iadd, 1, 241), (241, .aload_n 0, 1, 242), (242, .getfield 43, 3, 245), (245, .aload_n 0, 1, 246), (246, .getfield 65, 3, 249), (249, .iaload, 1, 250), (250, .iload 7, 2, 252), (252, .iadd, 1, 253), (253, .iastore, 1, 254), (254, .aload_n 0, 1, 255), (255, .getfield 46, 3, 258), (258, .aload_n 0, 1, 259), (259, .getfield 65, 3, 262), (262, .iconst 1, 1, 263), (263, .iadd, 1, 264), (264, .iload 7, 2, 266), (266, .ifCond .le 8, 3, 269), (269, .iload 7, 2, 271), (271, .goto 12, 3, 274), (274, .aload_n 0, 1, 275), (275, .getfield 46, 3, 278), (278, .aload_n 0, 1, 279), (279, .getfield 65, 3, 282), (282, .iaload, 1, 283), (283, .iastore, 1, 284), (284, .iload 7, 2, 286), (286, .ifCond .le 35, 3, 289), (289, .aload_n 0, 1, 290), (290, .getfield 72, 3, 293), (293, .bipush 64, 2, 295), (295, .if_icmp .ge 26, 3, 298), (298, .aload_n 0, 1, 299), (299, .getfield 62, 3, 302), (302, .aload_n 0, 1, 303), (303, .getfield 72, 3, 306), (306, .aload_n 0, 1, 307), (307, .getfield 65, 3, 310), (310, .iastore, 1, 311), (311, .aload_n 0, 1, 312), (312, .dup, 1, 313), (313, .getfield 72, 3, 316), (316, .iconst 1, 1, 317), (317, .iadd, 1, 318), (318, .putfield 72, 3, 321), (321, .aload_n 0, 1, 322), (322, .dup, 1, 323), (323, .getfield 65, 3, 326), (326, .iconst 1, 1, 327), (327, .iadd, 1, 328), (328, .putfield 65, 3, 331), (331, .iinc 6 1, 3, 334), (334, .goto (-292), 3, 337), (337, .iload 5, 2, 339), (339, .ifCond .lt 21, 3, 342), (342, .iload 5, 2, 344), (344, .bipush 17, 2, 346), (346, .if_icmp .ge 14, 3, 349), (349, .aload_n 0, 1, 350), (350, .getfield 56, 3, 353), (353, .iload 5, 2, 355), (355, .aload_n 0, 1, 356), (356, .getfield 65, 3, 359), (359, .iastore, 1, 360), (360, .return_, 1, 361)]
theorem jd_Flow_layPieces : qm_D prog_3_method_4_code jl_Flow_layPieces := qm_D_of (by decide +kernel)
noncomputable def jf_Flow_layPieces (this : Nat) (p1 : Int32) : qm_M Unit :=
  mB (jf_Run_cell (qm_rf this 3) p1 1) fun x1 =>
  mB (jf_Run_cell (qm_rf this 3) p1 2) fun x2 =>
  mB (jf_Run_cell (qm_rf this 3) p1 3) fun x3 =>
  mB (mGt this 1) fun x4 =>
  mB (mP (x4 - 1)) fun x5 =>
  mB (α := Unit) (
    mW (S := Int32) (α := Unit) (fun s7 =>
      if x1 ≤ s7 then
        mP (Sum.inr ())
      else
        mB (mGt this 0) fun x8 =>
        if x8 < 0 then
          mP (Sum.inr ())
        else
          mB (mGt this 0) fun x9 =>
          if 90 ≤ x9 then
            mP (Sum.inr ())
          else
            mB (jf_Run_noteAt (qm_rf this 3) p1 (s7 + 1)) fun x10 =>
            mB (mGt this 0) fun x11 =>
            mB (mSt (qm_rf this 5) x11 p1) fun _ =>
            mB (mGt this 0) fun x12 =>
            mB (mSt (qm_rf this 6) x12 s7) fun _ =>
            mB (mGt this 0) fun x13 =>
            mB (α := Int32) (
              if ¬ s7 = 0 then
                mP x2
              else
                mP (x2 + x3)) fun s14 =>
            mB (mSt (qm_rf this 7) x13 s14) fun _ =>
            mB (mGt this 0) fun x15 =>
            mB (α := Int32) (
              if ¬ s7 = 0 then
                mP 0
              else
                mB (jf_Run_cell (qm_rf this 3) p1 6) fun x17 =>
                mP x17) fun s16 =>
            mB (mSt (qm_rf this 8) x15 s16) fun _ =>
            mB (mGt this 0) fun x18 =>
            mB (mSt (qm_rf this 9) x18 x10) fun _ =>
            mB (mGt this 0) fun x19 =>
            mB (mSt (qm_rf this 10) x19 x5) fun _ =>
            mB (mGt this 0) fun x20 =>
            mB (α := Int32) (
              if ¬ s7 = 0 then
                mP x3
              else
                mP 0) fun s21 =>
            mB (mSt (qm_rf this 11) x20 s21) fun _ =>
            mB (mGt this 0) fun x22 =>
            mB (mGt this 0) fun x23 =>
            mB (mLd (qm_rf this 12) x23) fun x24 =>
            mB (mGt this 0) fun x25 =>
            mB (mLd (qm_rf this 7) x25) fun x26 =>
            mB (mGt this 0) fun x27 =>
            mB (mLd (qm_rf this 8) x27) fun x28 =>
            mB (mSt (qm_rf this 12) (x22 + 1) ((x24 + x26) + x28)) fun _ =>
            mB (mGt this 0) fun x29 =>
            mB (mGt this 0) fun x30 =>
            mB (mLd (qm_rf this 13) x30) fun x31 =>
            mB (mSt (qm_rf this 13) (x29 + 1) (x31 + x10)) fun _ =>
            mB (mGt this 0) fun x32 =>
            mB (α := Int32) (
              if x10 ≤ 0 then
                mB (mGt this 0) fun x34 =>
                mB (mLd (qm_rf this 14) x34) fun x35 =>
                mP x35
              else
                mP x10) fun s33 =>
            mB (mSt (qm_rf this 14) (x32 + 1) s33) fun _ =>
            mB (α := Unit) (
              if x10 ≤ 0 then
                mP ()
              else
                mB (mGt this 2) fun x37 =>
                if 64 ≤ x37 then
                  mP ()
                else
                  mB (mGt this 2) fun x38 =>
                  mB (mGt this 0) fun x39 =>
                  mB (mSt (qm_rf this 19) x38 x39) fun _ =>
                  mB (mGt this 2) fun x40 =>
                  mB (mPt this 2 (x40 + 1)) fun _ =>
                  mP ()) fun s36 =>
            mB (mGt this 0) fun x41 =>
            mB (mPt this 0 (x41 + 1)) fun _ =>
            mB (mP (s7 + 1)) fun x42 =>
            mP (Sum.inl x42)) 0) fun s6 =>
  if x5 < 0 then
    mP ()
  else
    if 17 ≤ x5 then
      mP ()
    else
      mB (mGt this 0) fun x43 =>
      mB (mSt (qm_rf this 17) x5 x43) fun _ =>
      mP ()
set_option maxRecDepth 20000 in
set_option maxHeartbeats 4000000 in
theorem jb_Flow_layPieces {X : qm_X} (hX : qm_ok X qr_Flow prog_3_method_4_code 8 2 46 jl_Flow_layPieces) {σ0 : qm_Mem} (hR : qm_RV X σ0) (this : Nat) (p1 : Int32) (hthis : (qm_kd this).1 = 11) : qm_B X (jf_Flow_layPieces this p1) 0 [some (.ref (qx_ad X this)), some (.int p1), none, none, none, none, none, none] [] (fun _ σ1 => σ1 = σ0) := by
  unfold jf_Flow_layPieces
  refine qb_aload_n hX 0 rfl rfl ?_
  refine qb_getR hX 1 rfl fl_Flow_9 hthis rfl ?_
  refine qb_iload_n hX 2 rfl rfl ?_
  refine qb_iconst hX 3 1 rfl (by decide) ?_
  refine qb_callI hX 4 rfl cv_Flow_84 (jm_Run_cell (qk_GI hX) (qm_rf this 3) p1 1 (kf_Flow_3 hthis) ) (ci := 4) (kf_Flow_3 hthis) ⟨rfl, rfl, rfl, by decide, by decide⟩ rfl (by exact Nat.le_of_ble_eq_true rfl) (fun x1 => ?_)
  refine qb_istore_n hX 5 ([some (.ref (qx_ad X this)), some (.int p1), some (.int x1), none, none, none, none, none]) rfl (by decide) rfl ?_
  refine qb_aload_n hX 6 rfl rfl ?_
  refine qb_getR hX 7 rfl fl_Flow_9 hthis rfl ?_
  refine qb_iload_n hX 8 rfl rfl ?_
  refine qb_iconst hX 9 2 rfl (by decide) ?_
  refine qb_callI hX 10 rfl cv_Flow_84 (jm_Run_cell (qk_GI hX) (qm_rf this 3) p1 2 (kf_Flow_3 hthis) ) (ci := 4) (kf_Flow_3 hthis) ⟨rfl, rfl, rfl, by decide, by decide⟩ rfl (by exact Nat.le_of_ble_eq_true rfl) (fun x2 => ?_)
  refine qb_istore_n hX 11 ([some (.ref (qx_ad X this)), some (.int p1), some (.int x1), some (.int x2), none, none, none, none]) rfl (by decide) rfl ?_
  refine qb_aload_n hX 12 rfl rfl ?_
  refine qb_getR hX 13 rfl fl_Flow_9 hthis rfl ?_
  refine qb_iload_n hX 14 rfl rfl ?_
  refine qb_iconst hX 15 3 rfl (by decide) ?_
  refine qb_callI hX 16 rfl cv_Flow_84 (jm_Run_cell (qk_GI hX) (qm_rf this 3) p1 3 (kf_Flow_3 hthis) ) (ci := 4) (kf_Flow_3 hthis) ⟨rfl, rfl, rfl, by decide, by decide⟩ rfl (by exact Nat.le_of_ble_eq_true rfl) (fun x3 => ?_)
  refine qb_istore hX 17 ([some (.ref (qx_ad X this)), some (.int p1), some (.int x1), some (.int x2), some (.int x3), none, none, none]) rfl (by decide) rfl ?_
  refine qb_aload_n hX 18 rfl rfl ?_
  refine qb_get hX 19 rfl fl_Flow_69 hthis rfl (fun x4 => ?_)
  refine qb_iconst hX 20 1 rfl (by decide) ?_
  refine qb_isub hX 21 rfl ?_
  refine qb_istoreL hX 22 (fun x5 => [some (.ref (qx_ad X this)), some (.int p1), some (.int x1), some (.int x2), some (.int x3), some (.int x5), none, none]) rfl (by decide) (fun _ => rfl) (fun x5 => ?_)
  refine qb_iconst hX 23 0 rfl (by decide) ?_
  refine qb_istore hX 24 ([some (.ref (qx_ad X this)), some (.int p1), some (.int x1), some (.int x2), some (.int x3), some (.int x5), some (.int 0), none]) rfl (by decide) rfl ?_
  refine qb_join 337 (fun s6 => [some (.ref (qx_ad X this)), none, none, none, none, some (.int x5), none, none]) (fun s6 => []) ?_ ?_
  ·
    refine qb_loopw (0) (fun s7 => [some (.ref (qx_ad X this)), some (.int p1), some (.int x1), some (.int x2), some (.int x3), some (.int x5), some (.int s7), none]) (qw_s (qw_s (qw_s (qw_s (qw_s (qw_s (qw_s (qw_n (qw_0))))))))) (fun s7 => ?_)
    refine qb_iload hX 25 rfl rfl ?_
    refine qb_iload_n hX 26 rfl rfl ?_
    refine qb_icge hX 27 337 rfl (by decide) ?_ ?_
    ·
      exact qb_exit (fun σ h => qj_wk (ρ' := [some (.ref (qx_ad X this)), none, none, none, none, some (.int x5), none, none]) (qw_s (qw_n (qw_n (qw_n (qw_n (qw_s (qw_n (qw_n (qw_0))))))))) h)
    ·
      refine qb_aload_n hX 28 rfl rfl ?_
      refine qb_get hX 29 rfl fl_Flow_65 hthis rfl (fun x8 => ?_)
      refine qb_iflt hX 30 337 rfl (by decide) ?_ ?_
      ·
        exact qb_exit (fun σ h => qj_wk (ρ' := [some (.ref (qx_ad X this)), none, none, none, none, some (.int x5), none, none]) (qw_s (qw_n (qw_n (qw_n (qw_n (qw_s (qw_n (qw_n (qw_0))))))))) h)
      ·
        refine qb_aload_n hX 31 rfl rfl ?_
        refine qb_get hX 32 rfl fl_Flow_65 hthis rfl (fun x9 => ?_)
        refine qb_bipush hX 33 90 rfl (by decide) ?_
        refine qb_icge hX 34 337 rfl (by decide) ?_ ?_
        ·
          exact qb_exit (fun σ h => qj_wk (ρ' := [some (.ref (qx_ad X this)), none, none, none, none, some (.int x5), none, none]) (qw_s (qw_n (qw_n (qw_n (qw_n (qw_s (qw_n (qw_n (qw_0))))))))) h)
        ·
          refine qb_aload_n hX 35 rfl rfl ?_
          refine qb_getR hX 36 rfl fl_Flow_9 hthis rfl ?_
          refine qb_iload_n hX 37 rfl rfl ?_
          refine qb_iload hX 38 rfl rfl ?_
          refine qb_iconst hX 39 1 rfl (by decide) ?_
          refine qb_iadd hX 40 rfl ?_
          refine qb_callI hX 41 rfl cv_Flow_94 (jm_Run_noteAt (qk_GI hX) (qm_rf this 3) p1 (s7 + 1) (kf_Flow_3 hthis) ) (ci := 4) (kf_Flow_3 hthis) ⟨rfl, rfl, rfl, by decide, by decide⟩ rfl (by exact Nat.le_of_ble_eq_true rfl) (fun x10 => ?_)
          refine qb_istore hX 42 ([some (.ref (qx_ad X this)), some (.int p1), some (.int x1), some (.int x2), some (.int x3), some (.int x5), some (.int s7), some (.int x10)]) rfl (by decide) rfl ?_
          refine qb_aload_n hX 43 rfl rfl ?_
          refine qb_getR hX 44 rfl fl_Flow_19 hthis rfl ?_
          refine qb_aload_n hX 45 rfl rfl ?_
          refine qb_get hX 46 rfl fl_Flow_65 hthis rfl (fun x11 => ?_)
          refine qb_iload_n hX 47 rfl rfl ?_
          refine qb_iast hX 48 rfl (kf_Flow_5 hthis) ?_
          refine qb_aload_n hX 49 rfl rfl ?_
          refine qb_getR hX 50 rfl fl_Flow_22 hthis rfl ?_
          refine qb_aload_n hX 51 rfl rfl ?_
          refine qb_get hX 52 rfl fl_Flow_65 hthis rfl (fun x12 => ?_)
          refine qb_iload hX 53 rfl rfl ?_
          refine qb_iast hX 54 rfl (kf_Flow_6 hthis) ?_
          refine qb_aload_n hX 55 rfl rfl ?_
          refine qb_getR hX 56 rfl fl_Flow_25 hthis rfl ?_
          refine qb_aload_n hX 57 rfl rfl ?_
          refine qb_get hX 58 rfl fl_Flow_65 hthis rfl (fun x13 => ?_)
          refine qb_iload hX 59 rfl rfl ?_
          refine qb_join 120 (fun s14 => [some (.ref (qx_ad X this)), some (.int p1), some (.int x1), some (.int x2), some (.int x3), some (.int x5), some (.int s7), some (.int x10)]) (fun s14 => [.int s14, .int x13, .ref (qx_ad X (qm_rf this 7))]) ?_ ?_
          ·
            refine qb_ifne hX 60 119 rfl (by decide) ?_ ?_
            ·
              refine qb_iload_n hX 65 rfl rfl ?_
              exact qb_exit (fun σ h => qj_wk (ρ' := [some (.ref (qx_ad X this)), some (.int p1), some (.int x1), some (.int x2), some (.int x3), some (.int x5), some (.int s7), some (.int x10)]) (qw_s (qw_s (qw_s (qw_s (qw_s (qw_s (qw_s (qw_s (qw_0))))))))) h)
            ·
              refine qb_iload_n hX 61 rfl rfl ?_
              refine qb_iload hX 62 rfl rfl ?_
              refine qb_iadd hX 63 rfl ?_
              exact qb_exit (fun σ h => qj_goto hX 64 rfl (by decide) (qj_wk (ρ' := [some (.ref (qx_ad X this)), some (.int p1), some (.int x1), some (.int x2), some (.int x3), some (.int x5), some (.int s7), some (.int x10)]) (qw_s (qw_s (qw_s (qw_s (qw_s (qw_s (qw_s (qw_s (qw_0))))))))) h))
          · intro s14
            refine qb_iast hX 66 rfl (kf_Flow_7 hthis) ?_
            refine qb_aload_n hX 67 rfl rfl ?_
            refine qb_getR hX 68 rfl fl_Flow_28 hthis rfl ?_
            refine qb_aload_n hX 69 rfl rfl ?_
            refine qb_get hX 70 rfl fl_Flow_65 hthis rfl (fun x15 => ?_)
            refine qb_iload hX 71 rfl rfl ?_
            refine qb_join 148 (fun s16 => [some (.ref (qx_ad X this)), some (.int p1), some (.int x1), some (.int x2), some (.int x3), some (.int x5), some (.int s7), some (.int x10)]) (fun s16 => [.int s16, .int x15, .ref (qx_ad X (qm_rf this 8))]) ?_ ?_
            ·
              refine qb_ifne hX 72 147 rfl (by decide) ?_ ?_
              ·
                refine qb_iconst hX 79 0 rfl (by decide) ?_
                exact qb_exit (fun σ h => qj_wk (ρ' := [some (.ref (qx_ad X this)), some (.int p1), some (.int x1), some (.int x2), some (.int x3), some (.int x5), some (.int s7), some (.int x10)]) (qw_s (qw_s (qw_s (qw_s (qw_s (qw_s (qw_s (qw_s (qw_0))))))))) h)
              ·
                refine qb_aload_n hX 73 rfl rfl ?_
                refine qb_getR hX 74 rfl fl_Flow_9 hthis rfl ?_
                refine qb_iload_n hX 75 rfl rfl ?_
                refine qb_bipush hX 76 6 rfl (by decide) ?_
                refine qb_callI hX 77 rfl cv_Flow_84 (jm_Run_cell (qk_GI hX) (qm_rf this 3) p1 6 (kf_Flow_3 hthis) ) (ci := 4) (kf_Flow_3 hthis) ⟨rfl, rfl, rfl, by decide, by decide⟩ rfl (by exact Nat.le_of_ble_eq_true rfl) (fun x17 => ?_)
                exact qb_exit (fun σ h => qj_goto hX 78 rfl (by decide) (qj_wk (ρ' := [some (.ref (qx_ad X this)), some (.int p1), some (.int x1), some (.int x2), some (.int x3), some (.int x5), some (.int s7), some (.int x10)]) (qw_s (qw_s (qw_s (qw_s (qw_s (qw_s (qw_s (qw_s (qw_0))))))))) h))
            · intro s16
              refine qb_iast hX 80 rfl (kf_Flow_8 hthis) ?_
              refine qb_aload_n hX 81 rfl rfl ?_
              refine qb_getR hX 82 rfl fl_Flow_31 hthis rfl ?_
              refine qb_aload_n hX 83 rfl rfl ?_
              refine qb_get hX 84 rfl fl_Flow_65 hthis rfl (fun x18 => ?_)
              refine qb_iload hX 85 rfl rfl ?_
              refine qb_iast hX 86 rfl (kf_Flow_9 hthis) ?_
              refine qb_aload_n hX 87 rfl rfl ?_
              refine qb_getR hX 88 rfl fl_Flow_34 hthis rfl ?_
              refine qb_aload_n hX 89 rfl rfl ?_
              refine qb_get hX 90 rfl fl_Flow_65 hthis rfl (fun x19 => ?_)
              refine qb_iload hX 91 rfl rfl ?_
              refine qb_iast hX 92 rfl (kf_Flow_10 hthis) ?_
              refine qb_aload_n hX 93 rfl rfl ?_
              refine qb_getR hX 94 rfl fl_Flow_37 hthis rfl ?_
              refine qb_aload_n hX 95 rfl rfl ?_
              refine qb_get hX 96 rfl fl_Flow_65 hthis rfl (fun x20 => ?_)
              refine qb_iload hX 97 rfl rfl ?_
              refine qb_join 190 (fun s21 => [some (.ref (qx_ad X this)), some (.int p1), some (.int x1), some (.int x2), some (.int x3), some (.int x5), some (.int s7), some (.int x10)]) (fun s21 => [.int s21, .int x20, .ref (qx_ad X (qm_rf this 11))]) ?_ ?_
              ·
                refine qb_ifne hX 98 188 rfl (by decide) ?_ ?_
                ·
                  refine qb_iload hX 101 rfl rfl ?_
                  exact qb_exit (fun σ h => qj_wk (ρ' := [some (.ref (qx_ad X this)), some (.int p1), some (.int x1), some (.int x2), some (.int x3), some (.int x5), some (.int s7), some (.int x10)]) (qw_s (qw_s (qw_s (qw_s (qw_s (qw_s (qw_s (qw_s (qw_0))))))))) h)
                ·
                  refine qb_iconst hX 99 0 rfl (by decide) ?_
                  exact qb_exit (fun σ h => qj_goto hX 100 rfl (by decide) (qj_wk (ρ' := [some (.ref (qx_ad X this)), some (.int p1), some (.int x1), some (.int x2), some (.int x3), some (.int x5), some (.int s7), some (.int x10)]) (qw_s (qw_s (qw_s (qw_s (qw_s (qw_s (qw_s (qw_s (qw_0))))))))) h))
              · intro s21
                refine qb_iast hX 102 rfl (kf_Flow_11 hthis) ?_
                refine qb_aload_n hX 103 rfl rfl ?_
                refine qb_getR hX 104 rfl fl_Flow_40 hthis rfl ?_
                refine qb_aload_n hX 105 rfl rfl ?_
                refine qb_get hX 106 rfl fl_Flow_65 hthis rfl (fun x22 => ?_)
                refine qb_iconst hX 107 1 rfl (by decide) ?_
                refine qb_iadd hX 108 rfl ?_
                refine qb_aload_n hX 109 rfl rfl ?_
                refine qb_getR hX 110 rfl fl_Flow_40 hthis rfl ?_
                refine qb_aload_n hX 111 rfl rfl ?_
                refine qb_get hX 112 rfl fl_Flow_65 hthis rfl (fun x23 => ?_)
                refine qb_iald hX 113 rfl (kf_Flow_12 hthis) (fun x24 => ?_)
                refine qb_aload_n hX 114 rfl rfl ?_
                refine qb_getR hX 115 rfl fl_Flow_25 hthis rfl ?_
                refine qb_aload_n hX 116 rfl rfl ?_
                refine qb_get hX 117 rfl fl_Flow_65 hthis rfl (fun x25 => ?_)
                refine qb_iald hX 118 rfl (kf_Flow_7 hthis) (fun x26 => ?_)
                refine qb_iadd hX 119 rfl ?_
                refine qb_aload_n hX 120 rfl rfl ?_
                refine qb_getR hX 121 rfl fl_Flow_28 hthis rfl ?_
                refine qb_aload_n hX 122 rfl rfl ?_
                refine qb_get hX 123 rfl fl_Flow_65 hthis rfl (fun x27 => ?_)
                refine qb_iald hX 124 rfl (kf_Flow_8 hthis) (fun x28 => ?_)
                refine qb_iadd hX 125 rfl ?_
                refine qb_iast hX 126 rfl (kf_Flow_12 hthis) ?_
                refine qb_aload_n hX 127 rfl rfl ?_
                refine qb_getR hX 128 rfl fl_Flow_43 hthis rfl ?_
                refine qb_aload_n hX 129 rfl rfl ?_
                refine qb_get hX 130 rfl fl_Flow_65 hthis rfl (fun x29 => ?_)
                refine qb_iconst hX 131 1 rfl (by decide) ?_
                refine qb_iadd hX 132 rfl ?_
                refine qb_aload_n hX 133 rfl rfl ?_
                refine qb_getR hX 134 rfl fl_Flow_43 hthis rfl ?_
                refine qb_aload_n hX 135 rfl rfl ?_
                refine qb_get hX 136 rfl fl_Flow_65 hthis rfl (fun x30 => ?_)
                refine qb_iald hX 137 rfl (kf_Flow_13 hthis) (fun x31 => ?_)
                refine qb_iload hX 138 rfl rfl ?_
                refine qb_iadd hX 139 rfl ?_
                refine qb_iast hX 140 rfl (kf_Flow_13 hthis) ?_
                refine qb_aload_n hX 141 rfl rfl ?_
                refine qb_getR hX 142 rfl fl_Flow_46 hthis rfl ?_
                refine qb_aload_n hX 143 rfl rfl ?_
                refine qb_get hX 144 rfl fl_Flow_65 hthis rfl (fun x32 => ?_)
                refine qb_iconst hX 145 1 rfl (by decide) ?_
                refine qb_iadd hX 146 rfl ?_
                refine qb_iload hX 147 rfl rfl ?_
                refine qb_join 283 (fun s33 => [some (.ref (qx_ad X this)), some (.int p1), some (.int x1), some (.int x2), some (.int x3), some (.int x5), some (.int s7), some (.int x10)]) (fun s33 => [.int s33, .int (x32 + 1), .ref (qx_ad X (qm_rf this 14))]) ?_ ?_
                ·
                  refine qb_ifle hX 148 274 rfl (by decide) ?_ ?_
                  ·
                    refine qb_aload_n hX 151 rfl rfl ?_
                    refine qb_getR hX 152 rfl fl_Flow_46 hthis rfl ?_
                    refine qb_aload_n hX 153 rfl rfl ?_
                    refine qb_get hX 154 rfl fl_Flow_65 hthis rfl (fun x34 => ?_)
                    refine qb_iald hX 155 rfl (kf_Flow_14 hthis) (fun x35 => ?_)
                    exact qb_exit (fun σ h => qj_wk (ρ' := [some (.ref (qx_ad X this)), some (.int p1), some (.int x1), some (.int x2), some (.int x3), some (.int x5), some (.int s7), some (.int x10)]) (qw_s (qw_s (qw_s (qw_s (qw_s (qw_s (qw_s (qw_s (qw_0))))))))) h)
                  ·
                    refine qb_iload hX 149 rfl rfl ?_
                    exact qb_exit (fun σ h => qj_goto hX 150 rfl (by decide) (qj_wk (ρ' := [some (.ref (qx_ad X this)), some (.int p1), some (.int x1), some (.int x2), some (.int x3), some (.int x5), some (.int s7), some (.int x10)]) (qw_s (qw_s (qw_s (qw_s (qw_s (qw_s (qw_s (qw_s (qw_0))))))))) h))
                · intro s33
                  refine qb_iast hX 156 rfl (kf_Flow_14 hthis) ?_
                  refine qb_iload hX 157 rfl rfl ?_
                  refine qb_join 321 (fun s36 => [some (.ref (qx_ad X this)), some (.int p1), some (.int x1), some (.int x2), some (.int x3), some (.int x5), some (.int s7), none]) (fun s36 => []) ?_ ?_
                  ·
                    refine qb_ifle hX 158 321 rfl (by decide) ?_ ?_
                    ·
                      exact qb_exit (fun σ h => qj_wk (ρ' := [some (.ref (qx_ad X this)), some (.int p1), some (.int x1), some (.int x2), some (.int x3), some (.int x5), some (.int s7), none]) (qw_s (qw_s (qw_s (qw_s (qw_s (qw_s (qw_s (qw_n (qw_0))))))))) h)
                    ·
                      refine qb_aload_n hX 159 rfl rfl ?_
                      refine qb_get hX 160 rfl fl_Flow_72 hthis rfl (fun x37 => ?_)
                      refine qb_bipush hX 161 64 rfl (by decide) ?_
                      refine qb_icge hX 162 321 rfl (by decide) ?_ ?_
                      ·
                        exact qb_exit (fun σ h => qj_wk (ρ' := [some (.ref (qx_ad X this)), some (.int p1), some (.int x1), some (.int x2), some (.int x3), some (.int x5), some (.int s7), none]) (qw_s (qw_s (qw_s (qw_s (qw_s (qw_s (qw_s (qw_n (qw_0))))))))) h)
                      ·
                        refine qb_aload_n hX 163 rfl rfl ?_
                        refine qb_getR hX 164 rfl fl_Flow_62 hthis rfl ?_
                        refine qb_aload_n hX 165 rfl rfl ?_
                        refine qb_get hX 166 rfl fl_Flow_72 hthis rfl (fun x38 => ?_)
                        refine qb_aload_n hX 167 rfl rfl ?_
                        refine qb_get hX 168 rfl fl_Flow_65 hthis rfl (fun x39 => ?_)
                        refine qb_iast hX 169 rfl (kf_Flow_19 hthis) ?_
                        refine qb_aload_n hX 170 rfl rfl ?_
                        refine qb_dup hX 171 rfl rfl ?_
                        refine qb_get hX 172 rfl fl_Flow_72 hthis rfl (fun x40 => ?_)
                        refine qb_iconst hX 173 1 rfl (by decide) ?_
                        refine qb_iadd hX 174 rfl ?_
                        refine qb_put hX 175 rfl fp_Flow_72 hthis ?_
                        exact qb_exit (fun σ h => qj_wk (ρ' := [some (.ref (qx_ad X this)), some (.int p1), some (.int x1), some (.int x2), some (.int x3), some (.int x5), some (.int s7), none]) (qw_s (qw_s (qw_s (qw_s (qw_s (qw_s (qw_s (qw_n (qw_0))))))))) h)
                  · intro s36
                    refine qb_aload_n hX 176 rfl rfl ?_
                    refine qb_dup hX 177 rfl rfl ?_
                    refine qb_get hX 178 rfl fl_Flow_65 hthis rfl (fun x41 => ?_)
                    refine qb_iconst hX 179 1 rfl (by decide) ?_
                    refine qb_iadd hX 180 rfl ?_
                    refine qb_put hX 181 rfl fp_Flow_65 hthis ?_
                    refine qb_iinc hX 182 1 (fun x42 => [some (.ref (qx_ad X this)), some (.int p1), some (.int x1), some (.int x2), some (.int x3), some (.int x5), some (.int x42), none]) rfl (by decide) (by decide) rfl (fun _ => rfl) (fun x42 => ?_)
                    exact qb_exit (fun σ h => qj_goto hX 183 rfl (by decide) (qj_wk (ρ' := [some (.ref (qx_ad X this)), some (.int p1), some (.int x1), some (.int x2), some (.int x3), some (.int x5), some (.int x42), none]) (qw_s (qw_s (qw_s (qw_s (qw_s (qw_s (qw_s (qw_n (qw_0))))))))) h))
  · intro s6
    refine qb_iload hX 184 rfl rfl ?_
    refine qb_iflt hX 185 360 rfl (by decide) ?_ ?_
    ·
      exact qb_vret hX 195 rfl hR (fun _ h => h)
    ·
      refine qb_iload hX 186 rfl rfl ?_
      refine qb_bipush hX 187 17 rfl (by decide) ?_
      refine qb_icge hX 188 360 rfl (by decide) ?_ ?_
      ·
        exact qb_vret hX 195 rfl hR (fun _ h => h)
      ·
        refine qb_aload_n hX 189 rfl rfl ?_
        refine qb_getR hX 190 rfl fl_Flow_56 hthis rfl ?_
        refine qb_iload hX 191 rfl rfl ?_
        refine qb_aload_n hX 192 rfl rfl ?_
        refine qb_get hX 193 rfl fl_Flow_65 hthis rfl (fun x43 => ?_)
        refine qb_iast hX 194 rfl (kf_Flow_17 hthis) ?_
        exact qb_vret hX 195 rfl hR (fun _ h => h)
theorem jm_Flow_layPieces {l : Launch} {G : qm_G} (hG : qm_GI G) (this : Nat) (p1 : Int32) (hthis : (qm_kd this).1 = 11) : qm_MV l G jy_Flow_layPieces prog_3_method_4_code 8 2 46 [.ref (G.1 this), .int p1] (jf_Flow_layPieces this p1) :=
  qm_metV (by decide +kernel) jd_Flow_layPieces (fun v hv => by simp only [List.mem_cons, List.not_mem_nil, or_false] at hv; rcases hv with rfl | rfl <;> rfl) (by exact Nat.le_of_ble_eq_true rfl) hG (fun X hl hg hX σ0 hR => by subst hl; subst hg; exact jb_Flow_layPieces hX hR this p1 hthis)
def jl_Flow_endsBehind : List qm_I := [(0, .aload_n 0, 1, 1), (1, .getfield 9, 3, 4), (4, .iload_n 1, 1, 5), (5, .iconst 0, 1, 6), (6, .invokevirtual 84, 3, 9), (9, .istore_n 3, 1, 10), (10, .aload_n 0, 1, 11), (11, .getfield 9, 3, 14), (14, .iload_n 1, 1, 15), (15, .iconst 1, 1, 16), (16, .invokevirtual 84, 3, 19), (19, .iload_n 2, 1, 20), (20, .isub, 1, 21), (21, .istore 4, 2, 23), (23, .iload 4, 2, 25), (25, .ifCond .gt 26, 3, 28), (28, .iload_n 3, 1, 29), (29, .iconst 2, 1, 30), (30, .if_icmp .eq 19, 3, 33), (33, .aload_n 0, 1, 34), (34, .getfield 9, 3, 37), (37, .iload_n 1, 1, 38), (38, .iconst 4, 1, 39), (39, .invokevirtual 84, 3, 42), (42, .ifCond .ne 7, 3, 45), (45, .iconst 1, 1, 46), (46, .goto 4, 3, 49), (49, .iconst 0, 1, 50), (50, .ireturn, 1, 51), (51, .iload_n 3, 1, 52), (52, .ifCond .eq 14, 3, 55), (55, .iload_n 3, 1, 56), (56, .iconst 3, 1, 57), (57, .if_icmp .ne 7, 3, 60), (60, .iconst 1, 1, 61), (61, .goto 4, 3, 64), (64, .iconst 0, 1, 65), (65, .ireturn, 1, 66), (66, .iload_n 1, 1, 67), (67, .ifCond .le 22, 3, 70), (70, .aload_n 0, 1, 71), (71, .getfield 9, 3, 74), (74, .iload_n 1, 1, 75), (75, .iconst 1, 1, 76), (76, .isub, 1, 77), (77, .iconst 0, 1, 78), (78, .invokevirtual 84, 3, 81), (81, .iconst 2, 1, 82), (82, .if_icmp .ne 7, 3, 85), (85, .iconst 1, 1, 86), (86, .goto 4, 3, 89), (89, .iconst 0, 1, 90), (90, .istore 5, 2, 92), (92, .aload_n 0, 1, 93), (93, .getfield 9, 3, 96), (96, .iload_n 1, 1, 97), (97, .iconst 5, 1, 98), (98, .invokevirtual 84, 3, 101), (101, .ifCond .ne 49, 3, 104), (104, .iload_n 2, 1, 105), (105, .aload_n 0, 1, 106), (106, .getfield 9, 3, 109), (109, .iconst 2, 1, 110), (110, .invokevirtual 104, 3, 113), (113, .if_icmp .lt 37, 3, 116), (116, .iload 5, 2, 118), (118, .ifCond .eq 15, 3, 121), (121, .iload_n 2, 1, 122), (122, .aload_n 0, 1, 123), (123, .getfield 9, 3, 126), (126, .iconst 4, 1, 127), (127, .invokevirtual 104, 3, 130), (130, .if_icmp .lt 20, 3, 133), (133, .iload 4, 2, 135), (135, .aload_n 0, 1, 136), (136, .getfield 9, 3, 139), (139, .iconst 3, 1, 140), (140, .invokevirtual 104, 3, 143), (143, .if_icmp .lt 7, 3, 146), (146, .iconst 1, 1, 147), (147, .goto 4, 3, 150), (150, .iconst 0, 1, 151), (151, .ireturn, 1, 152)]
theorem jd_Flow_endsBehind : qm_D prog_3_method_7_code jl_Flow_endsBehind := qm_D_of (by decide +kernel)
noncomputable def jf_Flow_endsBehind (this : Nat) (p1 : Int32) (p2 : Int32) : qm_M Int32 :=
  mB (jf_Run_cell (qm_rf this 3) p1 0) fun x1 =>
  mB (jf_Run_cell (qm_rf this 3) p1 1) fun x2 =>
  mB (mP (x2 - p2)) fun x3 =>
  if 0 < x3 then
    if x1 = 0 then
      mB (α := Int32) (
        mB (α := (Unit ⊕ Int32)) (
          if p1 ≤ 0 then
            mP (Sum.inl ())
          else
            mB (jf_Run_cell (qm_rf this 3) (p1 - 1) 0) fun x6 =>
            if ¬ x6 = 2 then
              mP (Sum.inl ())
            else
              mP (Sum.inr 1)) (Sum.elim (fun s5 =>
          mP 0) mP)) fun s4 =>
      mB (jf_Run_cell (qm_rf this 3) p1 5) fun x7 =>
      if ¬ x7 = 0 then
        mP 0
      else
        mB (jf_Run_setting (qm_rf this 3) 2) fun x8 =>
        if p2 < x8 then
          mP 0
        else
          mB (α := (Unit ⊕ Int32)) (
            if s4 = 0 then
              mP (Sum.inl ())
            else
              mB (jf_Run_setting (qm_rf this 3) 4) fun x10 =>
              if p2 < x10 then
                mP (Sum.inr 0)
              else
                mP (Sum.inl ())) (Sum.elim (fun s9 =>
            mB (jf_Run_setting (qm_rf this 3) 3) fun x11 =>
            if x3 < x11 then
              mP 0
            else
              mP 1) mP)
    else
      if ¬ x1 = 3 then
        mP 0
      else
        mP 1
  else
    if x1 = 2 then
      mP 0
    else
      mB (jf_Run_cell (qm_rf this 3) p1 4) fun x12 =>
      if ¬ x12 = 0 then
        mP 0
      else
        mP 1
set_option maxRecDepth 20000 in
set_option maxHeartbeats 4000000 in
theorem jb_Flow_endsBehind {X : qm_X} (hX : qm_ok X qr_Flow prog_3_method_7_code 6 1 22 jl_Flow_endsBehind) {r0 : Int32} {σ0 : qm_Mem} (hR : qm_RI X r0 σ0 .boolean) (this : Nat) (p1 : Int32) (p2 : Int32) (hthis : (qm_kd this).1 = 11) : qm_B X (jf_Flow_endsBehind this p1 p2) 0 [some (.ref (qx_ad X this)), some (.int p1), some (.int p2), none, none, none] [] (fun r σ1 => r = r0 ∧ σ1 = σ0) := by
  unfold jf_Flow_endsBehind
  refine qb_aload_n hX 0 rfl rfl ?_
  refine qb_getR hX 1 rfl fl_Flow_9 hthis rfl ?_
  refine qb_iload_n hX 2 rfl rfl ?_
  refine qb_iconst hX 3 0 rfl (by decide) ?_
  refine qb_callI hX 4 rfl cv_Flow_84 (jm_Run_cell (qk_GI hX) (qm_rf this 3) p1 0 (kf_Flow_3 hthis) ) (ci := 4) (kf_Flow_3 hthis) ⟨rfl, rfl, rfl, by decide, by decide⟩ rfl (by exact Nat.le_of_ble_eq_true rfl) (fun x1 => ?_)
  refine qb_istore_n hX 5 ([some (.ref (qx_ad X this)), some (.int p1), some (.int p2), some (.int x1), none, none]) rfl (by decide) rfl ?_
  refine qb_aload_n hX 6 rfl rfl ?_
  refine qb_getR hX 7 rfl fl_Flow_9 hthis rfl ?_
  refine qb_iload_n hX 8 rfl rfl ?_
  refine qb_iconst hX 9 1 rfl (by decide) ?_
  refine qb_callI hX 10 rfl cv_Flow_84 (jm_Run_cell (qk_GI hX) (qm_rf this 3) p1 1 (kf_Flow_3 hthis) ) (ci := 4) (kf_Flow_3 hthis) ⟨rfl, rfl, rfl, by decide, by decide⟩ rfl (by exact Nat.le_of_ble_eq_true rfl) (fun x2 => ?_)
  refine qb_iload_n hX 11 rfl rfl ?_
  refine qb_isub hX 12 rfl ?_
  refine qb_istoreL hX 13 (fun x3 => [some (.ref (qx_ad X this)), some (.int p1), some (.int p2), some (.int x1), some (.int x3), none]) rfl (by decide) (fun _ => rfl) (fun x3 => ?_)
  refine qb_iload hX 14 rfl rfl ?_
  refine qb_ifgt hX 15 51 rfl (by decide) ?_ ?_
  ·
    refine qb_iload_n hX 29 rfl rfl ?_
    refine qb_ifeq hX 30 66 rfl (by decide) ?_ ?_
    ·
      refine qb_iload_n hX 38 rfl rfl ?_
      refine qb_join 90 (fun s4 => [some (.ref (qx_ad X this)), some (.int p1), some (.int p2), none, some (.int x3), none]) (fun s4 => [.int s4]) ?_ ?_
      ·
        refine qb_join2 89 (fun s5 => [some (.ref (qx_ad X this)), some (.int p1), some (.int p2), none, some (.int x3), none]) (fun s5 => []) ?_ ?_
        ·
          refine qb_ifle hX 39 89 rfl (by decide) ?_ ?_
          ·
            exact qb_exit (fun σ h => qj_wk (ρ' := [some (.ref (qx_ad X this)), some (.int p1), some (.int p2), none, some (.int x3), none]) (qw_s (qw_s (qw_s (qw_n (qw_s (qw_n (qw_0))))))) h)
          ·
            refine qb_aload_n hX 40 rfl rfl ?_
            refine qb_getR hX 41 rfl fl_Flow_9 hthis rfl ?_
            refine qb_iload_n hX 42 rfl rfl ?_
            refine qb_iconst hX 43 1 rfl (by decide) ?_
            refine qb_isub hX 44 rfl ?_
            refine qb_iconst hX 45 0 rfl (by decide) ?_
            refine qb_callI hX 46 rfl cv_Flow_84 (jm_Run_cell (qk_GI hX) (qm_rf this 3) (p1 - 1) 0 (kf_Flow_3 hthis) ) (ci := 4) (kf_Flow_3 hthis) ⟨rfl, rfl, rfl, by decide, by decide⟩ rfl (by exact Nat.le_of_ble_eq_true rfl) (fun x6 => ?_)
            refine qb_iconst hX 47 2 rfl (by decide) ?_
            refine qb_icne hX 48 89 rfl (by decide) ?_ ?_
            ·
              exact qb_exit (fun σ h => qj_wk (ρ' := [some (.ref (qx_ad X this)), some (.int p1), some (.int p2), none, some (.int x3), none]) (qw_s (qw_s (qw_s (qw_n (qw_s (qw_n (qw_0))))))) h)
            ·
              refine qb_iconst hX 49 1 rfl (by decide) ?_
              exact qb_exit (fun σ h => qj_goto hX 50 rfl (by decide) (qj_wk (ρ' := [some (.ref (qx_ad X this)), some (.int p1), some (.int p2), none, some (.int x3), none]) (qw_s (qw_s (qw_s (qw_n (qw_s (qw_n (qw_0))))))) h))
        · intro s5
          refine qb_iconst hX 51 0 rfl (by decide) ?_
          exact qb_exit (fun σ h => qj_wk (ρ' := [some (.ref (qx_ad X this)), some (.int p1), some (.int p2), none, some (.int x3), none]) (qw_s (qw_s (qw_s (qw_n (qw_s (qw_n (qw_0))))))) h)
      · intro s4
        refine qb_istore hX 52 ([some (.ref (qx_ad X this)), some (.int p1), some (.int p2), none, some (.int x3), some (.int s4)]) rfl (by decide) rfl ?_
        refine qb_aload_n hX 53 rfl rfl ?_
        refine qb_getR hX 54 rfl fl_Flow_9 hthis rfl ?_
        refine qb_iload_n hX 55 rfl rfl ?_
        refine qb_iconst hX 56 5 rfl (by decide) ?_
        refine qb_callI hX 57 rfl cv_Flow_84 (jm_Run_cell (qk_GI hX) (qm_rf this 3) p1 5 (kf_Flow_3 hthis) ) (ci := 4) (kf_Flow_3 hthis) ⟨rfl, rfl, rfl, by decide, by decide⟩ rfl (by exact Nat.le_of_ble_eq_true rfl) (fun x7 => ?_)
        refine qb_ifne hX 58 150 rfl (by decide) ?_ ?_
        ·
          refine qb_iconst hX 81 0 rfl (by decide) ?_
          exact qb_zret1 hX 82 rfl hR (by decide) (fun _ h => h)
        ·
          refine qb_iload_n hX 59 rfl rfl ?_
          refine qb_aload_n hX 60 rfl rfl ?_
          refine qb_getR hX 61 rfl fl_Flow_9 hthis rfl ?_
          refine qb_iconst hX 62 2 rfl (by decide) ?_
          refine qb_callI hX 63 rfl cv_Flow_104 (jm_Run_setting (qk_GI hX) (qm_rf this 3) 2 (kf_Flow_3 hthis) ) (ci := 4) (kf_Flow_3 hthis) ⟨rfl, rfl, rfl, by decide, by decide⟩ rfl (by exact Nat.le_of_ble_eq_true rfl) (fun x8 => ?_)
          refine qb_iclt hX 64 150 rfl (by decide) ?_ ?_
          ·
            refine qb_iconst hX 81 0 rfl (by decide) ?_
            exact qb_zret1 hX 82 rfl hR (by decide) (fun _ h => h)
          ·
            refine qb_iload hX 65 rfl rfl ?_
            refine qb_join2 133 (fun s9 => [some (.ref (qx_ad X this)), none, none, none, some (.int x3), none]) (fun s9 => []) ?_ ?_
            ·
              refine qb_ifeq hX 66 133 rfl (by decide) ?_ ?_
              ·
                exact qb_exit (fun σ h => qj_wk (ρ' := [some (.ref (qx_ad X this)), none, none, none, some (.int x3), none]) (qw_s (qw_n (qw_n (qw_n (qw_s (qw_n (qw_0))))))) h)
              ·
                refine qb_iload_n hX 67 rfl rfl ?_
                refine qb_aload_n hX 68 rfl rfl ?_
                refine qb_getR hX 69 rfl fl_Flow_9 hthis rfl ?_
                refine qb_iconst hX 70 4 rfl (by decide) ?_
                refine qb_callI hX 71 rfl cv_Flow_104 (jm_Run_setting (qk_GI hX) (qm_rf this 3) 4 (kf_Flow_3 hthis) ) (ci := 4) (kf_Flow_3 hthis) ⟨rfl, rfl, rfl, by decide, by decide⟩ rfl (by exact Nat.le_of_ble_eq_true rfl) (fun x10 => ?_)
                refine qb_iclt hX 72 150 rfl (by decide) ?_ ?_
                ·
                  refine qb_iconst hX 81 0 rfl (by decide) ?_
                  exact qb_zret1 hX 82 rfl hR (by decide) (fun _ h => h)
                ·
                  exact qb_exit (fun σ h => qj_wk (ρ' := [some (.ref (qx_ad X this)), none, none, none, some (.int x3), none]) (qw_s (qw_n (qw_n (qw_n (qw_s (qw_n (qw_0))))))) h)
            · intro s9
              refine qb_iload hX 73 rfl rfl ?_
              refine qb_aload_n hX 74 rfl rfl ?_
              refine qb_getR hX 75 rfl fl_Flow_9 hthis rfl ?_
              refine qb_iconst hX 76 3 rfl (by decide) ?_
              refine qb_callI hX 77 rfl cv_Flow_104 (jm_Run_setting (qk_GI hX) (qm_rf this 3) 3 (kf_Flow_3 hthis) ) (ci := 4) (kf_Flow_3 hthis) ⟨rfl, rfl, rfl, by decide, by decide⟩ rfl (by exact Nat.le_of_ble_eq_true rfl) (fun x11 => ?_)
              refine qb_iclt hX 78 150 rfl (by decide) ?_ ?_
              ·
                refine qb_iconst hX 81 0 rfl (by decide) ?_
                exact qb_zret1 hX 82 rfl hR (by decide) (fun _ h => h)
              ·
                refine qb_iconst hX 79 1 rfl (by decide) ?_
                refine qb_goto hX 80 (tgt := 151) rfl (by decide) ?_
                exact qb_zret1 hX 82 rfl hR (by decide) (fun _ h => h)
    ·
      refine qb_iload_n hX 31 rfl rfl ?_
      refine qb_iconst hX 32 3 rfl (by decide) ?_
      refine qb_icne hX 33 64 rfl (by decide) ?_ ?_
      ·
        refine qb_iconst hX 36 0 rfl (by decide) ?_
        exact qb_zret1 hX 37 rfl hR (by decide) (fun _ h => h)
      ·
        refine qb_iconst hX 34 1 rfl (by decide) ?_
        refine qb_goto hX 35 (tgt := 65) rfl (by decide) ?_
        exact qb_zret1 hX 37 rfl hR (by decide) (fun _ h => h)
  ·
    refine qb_iload_n hX 16 rfl rfl ?_
    refine qb_iconst hX 17 2 rfl (by decide) ?_
    refine qb_iceq hX 18 49 rfl (by decide) ?_ ?_
    ·
      refine qb_iconst hX 27 0 rfl (by decide) ?_
      exact qb_zret1 hX 28 rfl hR (by decide) (fun _ h => h)
    ·
      refine qb_aload_n hX 19 rfl rfl ?_
      refine qb_getR hX 20 rfl fl_Flow_9 hthis rfl ?_
      refine qb_iload_n hX 21 rfl rfl ?_
      refine qb_iconst hX 22 4 rfl (by decide) ?_
      refine qb_callI hX 23 rfl cv_Flow_84 (jm_Run_cell (qk_GI hX) (qm_rf this 3) p1 4 (kf_Flow_3 hthis) ) (ci := 4) (kf_Flow_3 hthis) ⟨rfl, rfl, rfl, by decide, by decide⟩ rfl (by exact Nat.le_of_ble_eq_true rfl) (fun x12 => ?_)
      refine qb_ifne hX 24 49 rfl (by decide) ?_ ?_
      ·
        refine qb_iconst hX 27 0 rfl (by decide) ?_
        exact qb_zret1 hX 28 rfl hR (by decide) (fun _ h => h)
      ·
        refine qb_iconst hX 25 1 rfl (by decide) ?_
        refine qb_goto hX 26 (tgt := 50) rfl (by decide) ?_
        exact qb_zret1 hX 28 rfl hR (by decide) (fun _ h => h)
theorem jm_Flow_endsBehind {l : Launch} {G : qm_G} (hG : qm_GI G) (this : Nat) (p1 : Int32) (p2 : Int32) (hthis : (qm_kd this).1 = 11) : qm_MI l G jy_Flow_endsBehind prog_3_method_7_code 6 (some .boolean) 1 22 [.ref (G.1 this), .int p1, .int p2] (jf_Flow_endsBehind this p1 p2) :=
  qm_metI (by decide +kernel) jd_Flow_endsBehind (fun v hv => by simp only [List.mem_cons, List.not_mem_nil, or_false] at hv; rcases hv with rfl | rfl | rfl <;> rfl) (by exact Nat.le_of_ble_eq_true rfl) hG rfl (fun X hl hg hX r0 σ0 hR => by subst hl; subst hg; exact jb_Flow_endsBehind hX hR this p1 p2 hthis)
def jl_Flow_markEnd : List qm_I := [(0, .iload_n 1, 1, 1), (1, .ifCond .lt 16, 3, 4), (4, .iload_n 1, 1, 5), (5, .bipush 91, 2, 7), (7, .if_icmp .ge 10, 3, 10), (10, .aload_n 0, 1, 11), (11, .getfield 49, 3, 14), (14, .iload_n 1, 1, 15), (15, .iconst 1, 1, 16), (16, .bastore, 1, 17), (17, .return_, 1, 18)]
theorem jd_Flow_markEnd : qm_D prog_3_method_6_code jl_Flow_markEnd := qm_D_of (by decide +kernel)
noncomputable def jf_Flow_markEnd (this : Nat) (p1 : Int32) : qm_M Unit :=
  if p1 < 0 then
    mP ()
  else
    if 91 ≤ p1 then
      mP ()
    else
      mB (mSz (qm_rf this 15) p1 1) fun _ =>
      mP ()
set_option maxRecDepth 20000 in
set_option maxHeartbeats 4000000 in
theorem jb_Flow_markEnd {X : qm_X} (hX : qm_ok X qr_Flow prog_3_method_6_code 2 0 0 jl_Flow_markEnd) {σ0 : qm_Mem} (hR : qm_RV X σ0) (this : Nat) (p1 : Int32) (hthis : (qm_kd this).1 = 11) : qm_B X (jf_Flow_markEnd this p1) 0 [some (.ref (qx_ad X this)), some (.int p1)] [] (fun _ σ1 => σ1 = σ0) := by
  unfold jf_Flow_markEnd
  refine qb_iload_n hX 0 rfl rfl ?_
  refine qb_iflt hX 1 17 rfl (by decide) ?_ ?_
  ·
    exact qb_vret hX 10 rfl hR (fun _ h => h)
  ·
    refine qb_iload_n hX 2 rfl rfl ?_
    refine qb_bipush hX 3 91 rfl (by decide) ?_
    refine qb_icge hX 4 17 rfl (by decide) ?_ ?_
    ·
      exact qb_vret hX 10 rfl hR (fun _ h => h)
    ·
      refine qb_aload_n hX 5 rfl rfl ?_
      refine qb_getR hX 6 rfl fl_Flow_49 hthis rfl ?_
      refine qb_iload_n hX 7 rfl rfl ?_
      refine qb_iconst hX 8 1 rfl (by decide) ?_
      refine qb_zast hX 9 rfl (kf_Flow_15 hthis) ?_
      exact qb_vret hX 10 rfl hR (fun _ h => h)
theorem jm_Flow_markEnd {l : Launch} {G : qm_G} (hG : qm_GI G) (this : Nat) (p1 : Int32) (hthis : (qm_kd this).1 = 11) : qm_MV l G jy_Flow_markEnd prog_3_method_6_code 2 0 0 [.ref (G.1 this), .int p1] (jf_Flow_markEnd this p1) :=
  qm_metV (by decide +kernel) jd_Flow_markEnd (fun v hv => by simp only [List.mem_cons, List.not_mem_nil, or_false] at hv; rcases hv with rfl | rfl <;> rfl) (by exact Nat.le_of_ble_eq_true rfl) hG (fun X hl hg hX σ0 hR => by subst hl; subst hg; exact jb_Flow_markEnd hX hR this p1 hthis)
def jl_Flow_markEnds : List qm_I := [(0, .iconst 0, 1, 1), (1, .istore_n 1, 1, 2), (2, .iload_n 1, 1, 3), (3, .aload_n 0, 1, 4), (4, .getfield 65, 3, 7), (7, .if_icmp .ge 41, 3, 10), (10, .iload_n 1, 1, 11), (11, .bipush 90, 2, 13), (13, .if_icmp .ge 35, 3, 16), (16, .aload_n 0, 1, 17), (17, .getfield 49, 3, 20), (20, .iload_n 1, 1, 21), (21, .iconst 1, 1, 22), (22, .iadd, 1, 23), (23, .aload_n 0, 1, 24), (24, .aload_n 0, 1, 25), (25, .getfield 19, 3, 28), (28, .iload_n 1, 1, 29), (29, .iaload, 1, 30), (30, .aload_n 0, 1, 31), (31, .getfield 22, 3, 34), (34, .iload_n 1, 1, 35), (35, .iaload, 1, 36), (36, .iconst 1, 1, 37), (37, .iadd, 1, 38), (38, .invokevirtual 97, 3, 41), (41, .bastore, 1, 42), (42, .iinc 1 1, 3, 45), (45, .goto (-43), 3, 48), (48, .iconst 0, 1, 49), (49, .istore_n 1, 1, 50), (50, .iload_n 1, 1, 51), (51, .aload_n 0, 1, 52), (52, .getfield 69, 3, 55), (55, .if_icmp .ge 35, 3, 58), (58, .iload_n 1, 1, 59), (59, .bipush 17, 2, 61), (61, .if_icmp .ge 29, 3, 64), (64, .aload_n 0, 1, 65), (65, .aload_n 0, 1, 66), (66, .getfield 53, 3, 69), (69, .iload_n 1, 1, 70), (70, .iaload, 1, 71), (71, .invokevirtual 101, 3, 74), (74, .aload_n 0, 1, 75), (75, .aload_n 0, 1, 76), (76, .getfield 56, 3, 79), (79, .iload_n 1, 1, 80), (80, .iaload, 1, 81), (81, .invokevirtual 101, 3, 84), (84, .iinc 1 1, 3, 87), (87, .goto (-37), 3, 90), (90, .return_, 1, 91)]
theorem jd_Flow_markEnds : qm_D prog_3_method_5_code jl_Flow_markEnds := qm_D_of (by decide +kernel)
noncomputable def jf_Flow_markEnds (this : Nat) : qm_M Unit :=
  mB (α := Unit) (
    mW (S := Int32) (α := Unit) (fun s2 =>
      mB (mGt this 0) fun x3 =>
      if x3 ≤ s2 then
        mP (Sum.inr ())
      else
        if 90 ≤ s2 then
          mP (Sum.inr ())
        else
          mB (mLd (qm_rf this 5) s2) fun x4 =>
          mB (mLd (qm_rf this 6) s2) fun x5 =>
          mB (jf_Flow_endsBehind this x4 (x5 + 1)) fun x6 =>
          mB (mSz (qm_rf this 15) (s2 + 1) x6) fun _ =>
          mB (mP (s2 + 1)) fun x7 =>
          mP (Sum.inl x7)) 0) fun s1 =>
  mB (α := Unit) (
    mW (S := Int32) (α := Unit) (fun s9 =>
      mB (mGt this 1) fun x10 =>
      if x10 ≤ s9 then
        mP (Sum.inr ())
      else
        if 17 ≤ s9 then
          mP (Sum.inr ())
        else
          mB (mLd (qm_rf this 16) s9) fun x11 =>
          mB (jf_Flow_markEnd this x11) fun _ =>
          mB (mLd (qm_rf this 17) s9) fun x12 =>
          mB (jf_Flow_markEnd this x12) fun _ =>
          mB (mP (s9 + 1)) fun x13 =>
          mP (Sum.inl x13)) 0) fun s8 =>
  mP ()
set_option maxRecDepth 20000 in
set_option maxHeartbeats 4000000 in
theorem jb_Flow_markEnds {X : qm_X} (hX : qm_ok X qr_Flow prog_3_method_5_code 2 2 47 jl_Flow_markEnds) {σ0 : qm_Mem} (hR : qm_RV X σ0) (this : Nat) (hthis : (qm_kd this).1 = 11) : qm_B X (jf_Flow_markEnds this) 0 [some (.ref (qx_ad X this)), none] [] (fun _ σ1 => σ1 = σ0) := by
  unfold jf_Flow_markEnds
  refine qb_iconst hX 0 0 rfl (by decide) ?_
  refine qb_istore_n hX 1 ([some (.ref (qx_ad X this)), some (.int 0)]) rfl (by decide) rfl ?_
  refine qb_join 48 (fun s1 => [some (.ref (qx_ad X this)), none]) (fun s1 => []) ?_ ?_
  ·
    refine qb_loopw (0) (fun s2 => [some (.ref (qx_ad X this)), some (.int s2)]) (qw_s (qw_s (qw_0))) (fun s2 => ?_)
    refine qb_iload_n hX 2 rfl rfl ?_
    refine qb_aload_n hX 3 rfl rfl ?_
    refine qb_get hX 4 rfl fl_Flow_65 hthis rfl (fun x3 => ?_)
    refine qb_icge hX 5 48 rfl (by decide) ?_ ?_
    ·
      exact qb_exit (fun σ h => qj_wk (ρ' := [some (.ref (qx_ad X this)), none]) (qw_s (qw_n (qw_0))) h)
    ·
      refine qb_iload_n hX 6 rfl rfl ?_
      refine qb_bipush hX 7 90 rfl (by decide) ?_
      refine qb_icge hX 8 48 rfl (by decide) ?_ ?_
      ·
        exact qb_exit (fun σ h => qj_wk (ρ' := [some (.ref (qx_ad X this)), none]) (qw_s (qw_n (qw_0))) h)
      ·
        refine qb_aload_n hX 9 rfl rfl ?_
        refine qb_getR hX 10 rfl fl_Flow_49 hthis rfl ?_
        refine qb_iload_n hX 11 rfl rfl ?_
        refine qb_iconst hX 12 1 rfl (by decide) ?_
        refine qb_iadd hX 13 rfl ?_
        refine qb_aload_n hX 14 rfl rfl ?_
        refine qb_aload_n hX 15 rfl rfl ?_
        refine qb_getR hX 16 rfl fl_Flow_19 hthis rfl ?_
        refine qb_iload_n hX 17 rfl rfl ?_
        refine qb_iald hX 18 rfl (kf_Flow_5 hthis) (fun x4 => ?_)
        refine qb_aload_n hX 19 rfl rfl ?_
        refine qb_getR hX 20 rfl fl_Flow_22 hthis rfl ?_
        refine qb_iload_n hX 21 rfl rfl ?_
        refine qb_iald hX 22 rfl (kf_Flow_6 hthis) (fun x5 => ?_)
        refine qb_iconst hX 23 1 rfl (by decide) ?_
        refine qb_iadd hX 24 rfl ?_
        refine qb_callI hX 25 rfl cv_Flow_97 (jm_Flow_endsBehind (qk_GI hX) this x4 (x5 + 1) hthis ) (ci := 1) hthis ⟨rfl, rfl, rfl, by decide, by decide⟩ rfl (by exact Nat.le_of_ble_eq_true rfl) (fun x6 => ?_)
        refine qb_zast hX 26 rfl (kf_Flow_15 hthis) ?_
        refine qb_iinc hX 27 1 (fun x7 => [some (.ref (qx_ad X this)), some (.int x7)]) rfl (by decide) (by decide) rfl (fun _ => rfl) (fun x7 => ?_)
        exact qb_exit (fun σ h => qj_goto hX 28 rfl (by decide) (qj_wk (ρ' := [some (.ref (qx_ad X this)), some (.int x7)]) (qw_s (qw_s (qw_0))) h))
  · intro s1
    refine qb_iconst hX 29 0 rfl (by decide) ?_
    refine qb_istore_n hX 30 ([some (.ref (qx_ad X this)), some (.int 0)]) rfl (by decide) rfl ?_
    refine qb_join 90 (fun s8 => [none, none]) (fun s8 => []) ?_ ?_
    ·
      refine qb_loopw (0) (fun s9 => [some (.ref (qx_ad X this)), some (.int s9)]) (qw_s (qw_s (qw_0))) (fun s9 => ?_)
      refine qb_iload_n hX 31 rfl rfl ?_
      refine qb_aload_n hX 32 rfl rfl ?_
      refine qb_get hX 33 rfl fl_Flow_69 hthis rfl (fun x10 => ?_)
      refine qb_icge hX 34 90 rfl (by decide) ?_ ?_
      ·
        exact qb_exit (fun σ h => qj_wk (ρ' := [none, none]) (qw_n (qw_n (qw_0))) h)
      ·
        refine qb_iload_n hX 35 rfl rfl ?_
        refine qb_bipush hX 36 17 rfl (by decide) ?_
        refine qb_icge hX 37 90 rfl (by decide) ?_ ?_
        ·
          exact qb_exit (fun σ h => qj_wk (ρ' := [none, none]) (qw_n (qw_n (qw_0))) h)
        ·
          refine qb_aload_n hX 38 rfl rfl ?_
          refine qb_aload_n hX 39 rfl rfl ?_
          refine qb_getR hX 40 rfl fl_Flow_53 hthis rfl ?_
          refine qb_iload_n hX 41 rfl rfl ?_
          refine qb_iald hX 42 rfl (kf_Flow_16 hthis) (fun x11 => ?_)
          refine qb_callV hX 43 rfl cv_Flow_101 (jm_Flow_markEnd (qk_GI hX) this x11 hthis ) (ci := 1) hthis ⟨rfl, rfl, rfl, by decide, by decide⟩ rfl (by exact Nat.le_of_ble_eq_true rfl) ?_
          refine qb_aload_n hX 44 rfl rfl ?_
          refine qb_aload_n hX 45 rfl rfl ?_
          refine qb_getR hX 46 rfl fl_Flow_56 hthis rfl ?_
          refine qb_iload_n hX 47 rfl rfl ?_
          refine qb_iald hX 48 rfl (kf_Flow_17 hthis) (fun x12 => ?_)
          refine qb_callV hX 49 rfl cv_Flow_101 (jm_Flow_markEnd (qk_GI hX) this x12 hthis ) (ci := 1) hthis ⟨rfl, rfl, rfl, by decide, by decide⟩ rfl (by exact Nat.le_of_ble_eq_true rfl) ?_
          refine qb_iinc hX 50 1 (fun x13 => [some (.ref (qx_ad X this)), some (.int x13)]) rfl (by decide) (by decide) rfl (fun _ => rfl) (fun x13 => ?_)
          exact qb_exit (fun σ h => qj_goto hX 51 rfl (by decide) (qj_wk (ρ' := [some (.ref (qx_ad X this)), some (.int x13)]) (qw_s (qw_s (qw_0))) h))
    · intro s8
      exact qb_vret hX 52 rfl hR (fun _ h => h)
theorem jm_Flow_markEnds {l : Launch} {G : qm_G} (hG : qm_GI G) (this : Nat) (hthis : (qm_kd this).1 = 11) : qm_MV l G jy_Flow_markEnds prog_3_method_5_code 2 2 47 [.ref (G.1 this)] (jf_Flow_markEnds this) :=
  qm_metV (by decide +kernel) jd_Flow_markEnds (fun v hv => by simp only [List.mem_cons, List.not_mem_nil, or_false] at hv; rcases hv with rfl <;> rfl) (by exact Nat.le_of_ble_eq_true rfl) hG (fun X hl hg hX σ0 hR => by subst hl; subst hg; exact jb_Flow_markEnds hX hR this hthis)
def jl_Flow_lay : List qm_I := [(0, .aload_n 0, 1, 1), (1, .iconst 0, 1, 2), (2, .putfield 65, 3, 5), (5, .aload_n 0, 1, 6), (6, .iconst 0, 1, 7), (7, .putfield 69, 3, 10), (10, .aload_n 0, 1, 11), (11, .iconst 0, 1, 12), (12, .putfield 72, 3, 15), (15, .aload_n 0, 1, 16), (16, .getfield 9, 3, 19), (19, .getfield 75, 3, 22), (22, .ifCond .le 8, 3, 25), (25, .aload_n 0, 1, 26), (26, .iconst 0, 1, 27), (27, .invokevirtual 80, 3, 30), (30, .iconst 0, 1, 31), (31, .istore_n 1, 1, 32), (32, .iload_n 1, 1, 33), (33, .aload_n 0, 1, 34), (34, .getfield 9, 3, 37), (37, .getfield 75, 3, 40), (40, .if_icmp .ge 59, 3, 43), (43, .iload_n 1, 1, 44), (44, .bipush 16, 2, 46), (46, .if_icmp .ge 53, 3, 49), (49, .aload_n 0, 1, 50), (50, .getfield 15, 3, 53), (53, .iload_n 1, 1, 54), (54, .aload_n 0, 1, 55), (55, .getfield 65, 3, 58), (58, .iastore, 1, 59), (59, .aload_n 0, 1, 60), (60, .getfield 9, 3, 63), (63, .iload_n 1, 1, 64), (64, .iconst 0, 1, 65), (65, .invokevirtual 84, 3, 68), (68, .iconst 4, 1, 69), (69, .if_icmp .ne 19, 3, 72), (72, .aload_n 0, 1, 73), (73, .aload_n 0, 1, 74), (74, .getfield 9, 3, 77), (77, .iload_n 1, 1, 78), (78, .iconst 2, 1, 79), (79, .invokevirtual 84, 3, 82), (82, .invokevirtual 80, 3, 85), (85, .goto 8, 3, 88), (88, .aload_n 0, 1, 89), (89, .iload_n 1, 1, 90), (90, .invokevirtual 88, 3, 93), (93, .iinc 1 1, 3, 96), (96, .goto (-64), 3, 99), (99, .aload_n 0, 1, 100), (100, .invokevirtual 91, 3, 103), (103, .return_, 1, 104)]
theorem jd_Flow_lay : qm_D prog_3_method_2_code jl_Flow_lay := qm_D_of (by decide +kernel)
noncomputable def jf_Flow_lay (this : Nat) : qm_M Unit :=
  mB (mPt this 0 0) fun _ =>
  mB (mPt this 1 0) fun _ =>
  mB (mPt this 2 0) fun _ =>
  mB (mGt (qm_rf this 3) 0) fun x1 =>
  mB (α := Unit) (
    if x1 ≤ 0 then
      mP ()
    else
      mB (jf_Flow_openSection this 0) fun _ =>
      mP ()) fun s2 =>
  mB (α := Unit) (
    mW (S := Int32) (α := Unit) (fun s4 =>
      mB (mGt (qm_rf this 3) 0) fun x5 =>
      if x5 ≤ s4 then
        mP (Sum.inr ())
      else
        if 16 ≤ s4 then
          mP (Sum.inr ())
        else
          mB (mGt this 0) fun x6 =>
          mB (mSt (qm_rf this 4) s4 x6) fun _ =>
          mB (jf_Run_cell (qm_rf this 3) s4 0) fun x7 =>
          mB (α := Unit) (
            if ¬ x7 = 4 then
              mB (jf_Flow_layPieces this s4) fun _ =>
              mP ()
            else
              mB (jf_Run_cell (qm_rf this 3) s4 2) fun x9 =>
              mB (jf_Flow_openSection this x9) fun _ =>
              mP ()) fun s8 =>
          mB (mP (s4 + 1)) fun x10 =>
          mP (Sum.inl x10)) 0) fun s3 =>
  mB (jf_Flow_markEnds this) fun _ =>
  mP ()
set_option maxRecDepth 20000 in
set_option maxHeartbeats 4000000 in
theorem jb_Flow_lay {X : qm_X} (hX : qm_ok X qr_Flow prog_3_method_2_code 2 3 73 jl_Flow_lay) {σ0 : qm_Mem} (hR : qm_RV X σ0) (this : Nat) (hthis : (qm_kd this).1 = 11) : qm_B X (jf_Flow_lay this) 0 [some (.ref (qx_ad X this)), none] [] (fun _ σ1 => σ1 = σ0) := by
  unfold jf_Flow_lay
  refine qb_aload_n hX 0 rfl rfl ?_
  refine qb_iconst hX 1 0 rfl (by decide) ?_
  refine qb_put hX 2 rfl fp_Flow_65 hthis ?_
  refine qb_aload_n hX 3 rfl rfl ?_
  refine qb_iconst hX 4 0 rfl (by decide) ?_
  refine qb_put hX 5 rfl fp_Flow_69 hthis ?_
  refine qb_aload_n hX 6 rfl rfl ?_
  refine qb_iconst hX 7 0 rfl (by decide) ?_
  refine qb_put hX 8 rfl fp_Flow_72 hthis ?_
  refine qb_aload_n hX 9 rfl rfl ?_
  refine qb_getR hX 10 rfl fl_Flow_9 hthis rfl ?_
  refine qb_get hX 11 rfl fl_Flow_75 (kf_Flow_3 hthis) rfl (fun x1 => ?_)
  refine qb_join 30 (fun s2 => [some (.ref (qx_ad X this)), none]) (fun s2 => []) ?_ ?_
  ·
    refine qb_ifle hX 12 30 rfl (by decide) ?_ ?_
    ·
      exact qb_exit (fun σ h => qj_wk (ρ' := [some (.ref (qx_ad X this)), none]) (qw_s (qw_n (qw_0))) h)
    ·
      refine qb_aload_n hX 13 rfl rfl ?_
      refine qb_iconst hX 14 0 rfl (by decide) ?_
      refine qb_callV hX 15 rfl cv_Flow_80 (jm_Flow_openSection (qk_GI hX) this 0 hthis ) (ci := 1) hthis ⟨rfl, rfl, rfl, by decide, by decide⟩ rfl (by exact Nat.le_of_ble_eq_true rfl) ?_
      exact qb_exit (fun σ h => qj_wk (ρ' := [some (.ref (qx_ad X this)), none]) (qw_s (qw_n (qw_0))) h)
  · intro s2
    refine qb_iconst hX 16 0 rfl (by decide) ?_
    refine qb_istore_n hX 17 ([some (.ref (qx_ad X this)), some (.int 0)]) rfl (by decide) rfl ?_
    refine qb_join 99 (fun s3 => [some (.ref (qx_ad X this)), none]) (fun s3 => []) ?_ ?_
    ·
      refine qb_loopw (0) (fun s4 => [some (.ref (qx_ad X this)), some (.int s4)]) (qw_s (qw_s (qw_0))) (fun s4 => ?_)
      refine qb_iload_n hX 18 rfl rfl ?_
      refine qb_aload_n hX 19 rfl rfl ?_
      refine qb_getR hX 20 rfl fl_Flow_9 hthis rfl ?_
      refine qb_get hX 21 rfl fl_Flow_75 (kf_Flow_3 hthis) rfl (fun x5 => ?_)
      refine qb_icge hX 22 99 rfl (by decide) ?_ ?_
      ·
        exact qb_exit (fun σ h => qj_wk (ρ' := [some (.ref (qx_ad X this)), none]) (qw_s (qw_n (qw_0))) h)
      ·
        refine qb_iload_n hX 23 rfl rfl ?_
        refine qb_bipush hX 24 16 rfl (by decide) ?_
        refine qb_icge hX 25 99 rfl (by decide) ?_ ?_
        ·
          exact qb_exit (fun σ h => qj_wk (ρ' := [some (.ref (qx_ad X this)), none]) (qw_s (qw_n (qw_0))) h)
        ·
          refine qb_aload_n hX 26 rfl rfl ?_
          refine qb_getR hX 27 rfl fl_Flow_15 hthis rfl ?_
          refine qb_iload_n hX 28 rfl rfl ?_
          refine qb_aload_n hX 29 rfl rfl ?_
          refine qb_get hX 30 rfl fl_Flow_65 hthis rfl (fun x6 => ?_)
          refine qb_iast hX 31 rfl (kf_Flow_4 hthis) ?_
          refine qb_aload_n hX 32 rfl rfl ?_
          refine qb_getR hX 33 rfl fl_Flow_9 hthis rfl ?_
          refine qb_iload_n hX 34 rfl rfl ?_
          refine qb_iconst hX 35 0 rfl (by decide) ?_
          refine qb_callI hX 36 rfl cv_Flow_84 (jm_Run_cell (qk_GI hX) (qm_rf this 3) s4 0 (kf_Flow_3 hthis) ) (ci := 4) (kf_Flow_3 hthis) ⟨rfl, rfl, rfl, by decide, by decide⟩ rfl (by exact Nat.le_of_ble_eq_true rfl) (fun x7 => ?_)
          refine qb_iconst hX 37 4 rfl (by decide) ?_
          refine qb_join 93 (fun s8 => [some (.ref (qx_ad X this)), some (.int s4)]) (fun s8 => []) ?_ ?_
          ·
            refine qb_icne hX 38 88 rfl (by decide) ?_ ?_
            ·
              refine qb_aload_n hX 47 rfl rfl ?_
              refine qb_iload_n hX 48 rfl rfl ?_
              refine qb_callV hX 49 rfl cv_Flow_88 (jm_Flow_layPieces (qk_GI hX) this s4 hthis ) (ci := 1) hthis ⟨rfl, rfl, rfl, by decide, by decide⟩ rfl (by exact Nat.le_of_ble_eq_true rfl) ?_
              exact qb_exit (fun σ h => qj_wk (ρ' := [some (.ref (qx_ad X this)), some (.int s4)]) (qw_s (qw_s (qw_0))) h)
            ·
              refine qb_aload_n hX 39 rfl rfl ?_
              refine qb_aload_n hX 40 rfl rfl ?_
              refine qb_getR hX 41 rfl fl_Flow_9 hthis rfl ?_
              refine qb_iload_n hX 42 rfl rfl ?_
              refine qb_iconst hX 43 2 rfl (by decide) ?_
              refine qb_callI hX 44 rfl cv_Flow_84 (jm_Run_cell (qk_GI hX) (qm_rf this 3) s4 2 (kf_Flow_3 hthis) ) (ci := 4) (kf_Flow_3 hthis) ⟨rfl, rfl, rfl, by decide, by decide⟩ rfl (by exact Nat.le_of_ble_eq_true rfl) (fun x9 => ?_)
              refine qb_callV hX 45 rfl cv_Flow_80 (jm_Flow_openSection (qk_GI hX) this x9 hthis ) (ci := 1) hthis ⟨rfl, rfl, rfl, by decide, by decide⟩ rfl (by exact Nat.le_of_ble_eq_true rfl) ?_
              exact qb_exit (fun σ h => qj_goto hX 46 rfl (by decide) (qj_wk (ρ' := [some (.ref (qx_ad X this)), some (.int s4)]) (qw_s (qw_s (qw_0))) h))
          · intro s8
            refine qb_iinc hX 50 1 (fun x10 => [some (.ref (qx_ad X this)), some (.int x10)]) rfl (by decide) (by decide) rfl (fun _ => rfl) (fun x10 => ?_)
            exact qb_exit (fun σ h => qj_goto hX 51 rfl (by decide) (qj_wk (ρ' := [some (.ref (qx_ad X this)), some (.int x10)]) (qw_s (qw_s (qw_0))) h))
    · intro s3
      refine qb_aload_n hX 52 rfl rfl ?_
      refine qb_callV hX 53 rfl cv_Flow_91 (jm_Flow_markEnds (qk_GI hX) this  hthis ) (ci := 1) hthis ⟨rfl, rfl, rfl, by decide, by decide⟩ rfl (by exact Nat.le_of_ble_eq_true rfl) ?_
      exact qb_vret hX 54 rfl hR (fun _ h => h)
theorem jm_Flow_lay {l : Launch} {G : qm_G} (hG : qm_GI G) (this : Nat) (hthis : (qm_kd this).1 = 11) : qm_MV l G jy_Flow_lay prog_3_method_2_code 2 3 73 [.ref (G.1 this)] (jf_Flow_lay this) :=
  qm_metV (by decide +kernel) jd_Flow_lay (fun v hv => by simp only [List.mem_cons, List.not_mem_nil, or_false] at hv; rcases hv with rfl <;> rfl) (by exact Nat.le_of_ble_eq_true rfl) hG (fun X hl hg hX σ0 hR => by subst hl; subst hg; exact jb_Flow_lay hX hR this hthis)
def jl_Flow_spans : List qm_I := [(0, .iconst 0, 1, 1), (1, .aload_n 0, 1, 2), (2, .getfield 69, 3, 5), (5, .iconst 1, 1, 6), (6, .isub, 1, 7), (7, .invokestatic 108, 3, 10), (10, .ireturn, 1, 11)]
theorem jd_Flow_spans : qm_D prog_3_method_8_code jl_Flow_spans := qm_D_of (by decide +kernel)
noncomputable def jf_Flow_spans (this : Nat) : qm_M Int32 :=
  mB (mGt this 1) fun x1 =>
  mB (jf_Math_max 0 (x1 - 1)) fun x2 =>
  mP x2
set_option maxRecDepth 20000 in
set_option maxHeartbeats 4000000 in
theorem jb_Flow_spans {X : qm_X} (hX : qm_ok X qr_Flow prog_3_method_8_code 1 1 21 jl_Flow_spans) {r0 : Int32} {σ0 : qm_Mem} (hR : qm_RI X r0 σ0 .int) (this : Nat) (hthis : (qm_kd this).1 = 11) : qm_B X (jf_Flow_spans this) 0 [some (.ref (qx_ad X this))] [] (fun r σ1 => r = r0 ∧ σ1 = σ0) := by
  unfold jf_Flow_spans
  refine qb_iconst hX 0 0 rfl (by decide) ?_
  refine qb_aload_n hX 1 rfl rfl ?_
  refine qb_get hX 2 rfl fl_Flow_69 hthis rfl (fun x1 => ?_)
  refine qb_iconst hX 3 1 rfl (by decide) ?_
  refine qb_isub hX 4 rfl ?_
  refine qb_mmax hX 5 rfl cv_Flow_108 (by decide) (by exact Nat.le_of_ble_eq_true rfl) (fun x2 => ?_)
  exact qb_iret hX 6 rfl hR (fun _ h => h)
theorem jm_Flow_spans {l : Launch} {G : qm_G} (hG : qm_GI G) (this : Nat) (hthis : (qm_kd this).1 = 11) : qm_MI l G jy_Flow_spans prog_3_method_8_code 1 (some .int) 1 21 [.ref (G.1 this)] (jf_Flow_spans this) :=
  qm_metI (by decide +kernel) jd_Flow_spans (fun v hv => by simp only [List.mem_cons, List.not_mem_nil, or_false] at hv; rcases hv with rfl <;> rfl) (by exact Nat.le_of_ble_eq_true rfl) hG rfl (fun X hl hg hX r0 σ0 hR => by subst hl; subst hg; exact jb_Flow_spans hX hR this hthis)
def jl_Flow_endsIn : List qm_I := [(0, .iconst 0, 1, 1), (1, .istore_n 3, 1, 2), (2, .iload_n 1, 1, 3), (3, .istore 4, 2, 5), (5, .iload 4, 2, 7), (7, .iload_n 2, 1, 8), (8, .if_icmp .gt 21, 3, 11), (11, .aload_n 0, 1, 12), (12, .iload 4, 2, 14), (14, .invokevirtual 113, 3, 17), (17, .ifCond .eq 6, 3, 20), (20, .iinc 3 1, 3, 23), (23, .iinc 4 1, 3, 26), (26, .goto (-21), 3, 29), (29, .iload_n 3, 1, 30), (30, .ireturn, 1, 31)]
theorem jd_Flow_endsIn : qm_D prog_3_method_10_code jl_Flow_endsIn := qm_D_of (by decide +kernel)
noncomputable def jf_Flow_endsIn (this : Nat) (p1 : Int32) (p2 : Int32) : qm_M Int32 :=
  mB (α := Int32) (
    mW (S := Int32 × Int32) (α := Int32) (fun s2 =>
      if p2 < s2.2 then
        mP (Sum.inr s2.1)
      else
        mB (jf_Flow_mayEnd this s2.2) fun x3 =>
        mB (α := Int32) (
          if x3 = 0 then
            mP s2.1
          else
            mB (mP (s2.1 + 1)) fun x5 =>
            mP x5) fun s4 =>
        mB (mP (s2.2 + 1)) fun x6 =>
        mP (Sum.inl (s4, x6))) (0, p1)) fun s1 =>
  mP s1
set_option maxRecDepth 20000 in
set_option maxHeartbeats 4000000 in
theorem jb_Flow_endsIn {X : qm_X} (hX : qm_ok X qr_Flow prog_3_method_10_code 5 1 21 jl_Flow_endsIn) {r0 : Int32} {σ0 : qm_Mem} (hR : qm_RI X r0 σ0 .int) (this : Nat) (p1 : Int32) (p2 : Int32) (hthis : (qm_kd this).1 = 11) : qm_B X (jf_Flow_endsIn this p1 p2) 0 [some (.ref (qx_ad X this)), some (.int p1), some (.int p2), none, none] [] (fun r σ1 => r = r0 ∧ σ1 = σ0) := by
  unfold jf_Flow_endsIn
  refine qb_iconst hX 0 0 rfl (by decide) ?_
  refine qb_istore_n hX 1 ([some (.ref (qx_ad X this)), some (.int p1), some (.int p2), some (.int 0), none]) rfl (by decide) rfl ?_
  refine qb_iload_n hX 2 rfl rfl ?_
  refine qb_istore hX 3 ([some (.ref (qx_ad X this)), some (.int p1), some (.int p2), some (.int 0), some (.int p1)]) rfl (by decide) rfl ?_
  refine qb_join 29 (fun s1 => [none, none, none, some (.int s1), none]) (fun s1 => []) ?_ ?_
  ·
    refine qb_loopw ((0, p1)) (fun s2 => [some (.ref (qx_ad X this)), none, some (.int p2), some (.int s2.1), some (.int s2.2)]) (qw_s (qw_n (qw_s (qw_s (qw_s (qw_0)))))) (fun s2 => ?_)
    refine qb_iload hX 4 rfl rfl ?_
    refine qb_iload_n hX 5 rfl rfl ?_
    refine qb_icgt hX 6 29 rfl (by decide) ?_ ?_
    ·
      exact qb_exit (fun σ h => qj_wk (ρ' := [none, none, none, some (.int s2.1), none]) (qw_n (qw_n (qw_n (qw_s (qw_n (qw_0)))))) h)
    ·
      refine qb_aload_n hX 7 rfl rfl ?_
      refine qb_iload hX 8 rfl rfl ?_
      refine qb_callI hX 9 rfl cv_Flow_113 (jm_Flow_mayEnd (qk_GI hX) this s2.2 hthis ) (ci := 1) hthis ⟨rfl, rfl, rfl, by decide, by decide⟩ rfl (by exact Nat.le_of_ble_eq_true rfl) (fun x3 => ?_)
      refine qb_join 23 (fun s4 => [some (.ref (qx_ad X this)), none, some (.int p2), some (.int s4), some (.int s2.2)]) (fun s4 => []) ?_ ?_
      ·
        refine qb_ifeq hX 10 23 rfl (by decide) ?_ ?_
        ·
          exact qb_exit (fun σ h => qj_wk (ρ' := [some (.ref (qx_ad X this)), none, some (.int p2), some (.int s2.1), some (.int s2.2)]) (qw_s (qw_n (qw_s (qw_s (qw_s (qw_0)))))) h)
        ·
          refine qb_iinc hX 11 1 (fun x5 => [some (.ref (qx_ad X this)), none, some (.int p2), some (.int x5), some (.int s2.2)]) rfl (by decide) (by decide) rfl (fun _ => rfl) (fun x5 => ?_)
          exact qb_exit (fun σ h => qj_wk (ρ' := [some (.ref (qx_ad X this)), none, some (.int p2), some (.int x5), some (.int s2.2)]) (qw_s (qw_n (qw_s (qw_s (qw_s (qw_0)))))) h)
      · intro s4
        refine qb_iinc hX 12 1 (fun x6 => [some (.ref (qx_ad X this)), none, some (.int p2), some (.int s4), some (.int x6)]) rfl (by decide) (by decide) rfl (fun _ => rfl) (fun x6 => ?_)
        exact qb_exit (fun σ h => qj_goto hX 13 rfl (by decide) (qj_wk (ρ' := [some (.ref (qx_ad X this)), none, some (.int p2), some (.int s4), some (.int x6)]) (qw_s (qw_n (qw_s (qw_s (qw_s (qw_0)))))) h))
  · intro s1
    refine qb_iload_n hX 14 rfl rfl ?_
    exact qb_iret hX 15 rfl hR (fun _ h => h)
theorem jm_Flow_endsIn {l : Launch} {G : qm_G} (hG : qm_GI G) (this : Nat) (p1 : Int32) (p2 : Int32) (hthis : (qm_kd this).1 = 11) : qm_MI l G jy_Flow_endsIn prog_3_method_10_code 5 (some .int) 1 21 [.ref (G.1 this), .int p1, .int p2] (jf_Flow_endsIn this p1 p2) :=
  qm_metI (by decide +kernel) jd_Flow_endsIn (fun v hv => by simp only [List.mem_cons, List.not_mem_nil, or_false] at hv; rcases hv with rfl | rfl | rfl <;> rfl) (by exact Nat.le_of_ble_eq_true rfl) hG rfl (fun X hl hg hX r0 σ0 hR => by subst hl; subst hg; exact jb_Flow_endsIn hX hR this p1 p2 hthis)
def jl_Run_copyFrom : List qm_I := [(0, .aload_n 0, 1, 1), (1, .aload_n 1, 1, 2), (2, .getfield 27, 3, 5), (5, .putfield 27, 3, 8), (8, .iconst 0, 1, 9), (9, .istore_n 2, 1, 10), (10, .iload_n 2, 1, 11), (11, .bipush 8, 2, 13), (13, .if_icmp .ge 21, 3, 16), (16, .aload_n 0, 1, 17), (17, .getfield 11, 3, 20), (20, .iload_n 2, 1, 21), (21, .aload_n 1, 1, 22), (22, .getfield 11, 3, 25), (25, .iload_n 2, 1, 26), (26, .iaload, 1, 27), (27, .iastore, 1, 28), (28, .iinc 2 1, 3, 31), (31, .goto (-21), 3, 34), (34, .iconst 0, 1, 35), (35, .istore_n 2, 1, 36), (36, .iload_n 2, 1, 37), (37, .aload_n 0, 1, 38), (38, .getfield 15, 3, 41), (41, .arraylength, 1, 42), (42, .if_icmp .ge 21, 3, 45), (45, .aload_n 0, 1, 46), (46, .getfield 15, 3, 49), (49, .iload_n 2, 1, 50), (50, .aload_n 1, 1, 51), (51, .getfield 15, 3, 54), (54, .iload_n 2, 1, 55), (55, .iaload, 1, 56), (56, .iastore, 1, 57), (57, .iinc 2 1, 3, 60), (60, .goto (-24), 3, 63), (63, .return_, 1, 64)]
theorem jd_Run_copyFrom : qm_D prog_6_method_4_code jl_Run_copyFrom := qm_D_of (by decide +kernel)
noncomputable def jf_Run_copyFrom (this : Nat) (p1 : Nat) : qm_M Unit :=
  mB (mGt p1 0) fun x1 =>
  mB (mPt this 0 x1) fun _ =>
  mB (α := Unit) (
    mW (S := Int32) (α := Unit) (fun s3 =>
      if 8 ≤ s3 then
        mP (Sum.inr ())
      else
        mB (mLd (qm_rf p1 1) s3) fun x4 =>
        mB (mSt (qm_rf this 1) s3 x4) fun _ =>
        mB (mP (s3 + 1)) fun x5 =>
        mP (Sum.inl x5)) 0) fun s2 =>
  mB (α := Unit) (
    mW (S := Int32) (α := Unit) (fun s7 =>
      if (Int32.ofNat (qm_kd (qm_rf this 2)).2) ≤ s7 then
        mP (Sum.inr ())
      else
        mB (mLd (qm_rf p1 2) s7) fun x8 =>
        mB (mSt (qm_rf this 2) s7 x8) fun _ =>
        mB (mP (s7 + 1)) fun x9 =>
        mP (Sum.inl x9)) 0) fun s6 =>
  mP ()
set_option maxRecDepth 20000 in
set_option maxHeartbeats 4000000 in
theorem jb_Run_copyFrom {X : qm_X} (hX : qm_ok X qr_Run prog_6_method_4_code 3 0 0 jl_Run_copyFrom) {σ0 : qm_Mem} (hR : qm_RV X σ0) (this : Nat) (p1 : Nat) (hthis : (qm_kd this).1 = 14) (hp1 : (qm_kd p1).1 = 14) : qm_B X (jf_Run_copyFrom this p1) 0 [some (.ref (qx_ad X this)), some (.ref (qx_ad X p1)), none] [] (fun _ σ1 => σ1 = σ0) := by
  unfold jf_Run_copyFrom
  refine qb_aload_n hX 0 rfl rfl ?_
  refine qb_aload_n hX 1 rfl rfl ?_
  refine qb_get hX 2 rfl fl_Run_27 hp1 rfl (fun x1 => ?_)
  refine qb_put hX 3 rfl fp_Run_27 hthis ?_
  refine qb_iconst hX 4 0 rfl (by decide) ?_
  refine qb_istore_n hX 5 ([some (.ref (qx_ad X this)), some (.ref (qx_ad X p1)), some (.int 0)]) rfl (by decide) rfl ?_
  refine qb_join 34 (fun s2 => [some (.ref (qx_ad X this)), some (.ref (qx_ad X p1)), none]) (fun s2 => []) ?_ ?_
  ·
    refine qb_loopw (0) (fun s3 => [some (.ref (qx_ad X this)), some (.ref (qx_ad X p1)), some (.int s3)]) (qw_s (qw_s (qw_s (qw_0)))) (fun s3 => ?_)
    refine qb_iload_n hX 6 rfl rfl ?_
    refine qb_bipush hX 7 8 rfl (by decide) ?_
    refine qb_icge hX 8 34 rfl (by decide) ?_ ?_
    ·
      exact qb_exit (fun σ h => qj_wk (ρ' := [some (.ref (qx_ad X this)), some (.ref (qx_ad X p1)), none]) (qw_s (qw_s (qw_n (qw_0)))) h)
    ·
      refine qb_aload_n hX 9 rfl rfl ?_
      refine qb_getR hX 10 rfl fl_Run_11 hthis rfl ?_
      refine qb_iload_n hX 11 rfl rfl ?_
      refine qb_aload_n hX 12 rfl rfl ?_
      refine qb_getR hX 13 rfl fl_Run_11 hp1 rfl ?_
      refine qb_iload_n hX 14 rfl rfl ?_
      refine qb_iald hX 15 rfl (kf_Run_1 hp1) (fun x4 => ?_)
      refine qb_iast hX 16 rfl (kf_Run_1 hthis) ?_
      refine qb_iinc hX 17 1 (fun x5 => [some (.ref (qx_ad X this)), some (.ref (qx_ad X p1)), some (.int x5)]) rfl (by decide) (by decide) rfl (fun _ => rfl) (fun x5 => ?_)
      exact qb_exit (fun σ h => qj_goto hX 18 rfl (by decide) (qj_wk (ρ' := [some (.ref (qx_ad X this)), some (.ref (qx_ad X p1)), some (.int x5)]) (qw_s (qw_s (qw_s (qw_0)))) h))
  · intro s2
    refine qb_iconst hX 19 0 rfl (by decide) ?_
    refine qb_istore_n hX 20 ([some (.ref (qx_ad X this)), some (.ref (qx_ad X p1)), some (.int 0)]) rfl (by decide) rfl ?_
    refine qb_join 63 (fun s6 => [none, none, none]) (fun s6 => []) ?_ ?_
    ·
      refine qb_loopw (0) (fun s7 => [some (.ref (qx_ad X this)), some (.ref (qx_ad X p1)), some (.int s7)]) (qw_s (qw_s (qw_s (qw_0)))) (fun s7 => ?_)
      refine qb_iload_n hX 21 rfl rfl ?_
      refine qb_aload_n hX 22 rfl rfl ?_
      refine qb_getR hX 23 rfl fl_Run_15 hthis rfl ?_
      refine qb_alen hX 24 (Int32.ofNat (qm_kd (qm_rf this 2)).2) rfl (Or.inl (kf_Run_2 hthis)) rfl ?_
      refine qb_icge hX 25 63 rfl (by decide) ?_ ?_
      ·
        exact qb_exit (fun σ h => qj_wk (ρ' := [none, none, none]) (qw_n (qw_n (qw_n (qw_0)))) h)
      ·
        refine qb_aload_n hX 26 rfl rfl ?_
        refine qb_getR hX 27 rfl fl_Run_15 hthis rfl ?_
        refine qb_iload_n hX 28 rfl rfl ?_
        refine qb_aload_n hX 29 rfl rfl ?_
        refine qb_getR hX 30 rfl fl_Run_15 hp1 rfl ?_
        refine qb_iload_n hX 31 rfl rfl ?_
        refine qb_iald hX 32 rfl (kf_Run_2 hp1) (fun x8 => ?_)
        refine qb_iast hX 33 rfl (kf_Run_2 hthis) ?_
        refine qb_iinc hX 34 1 (fun x9 => [some (.ref (qx_ad X this)), some (.ref (qx_ad X p1)), some (.int x9)]) rfl (by decide) (by decide) rfl (fun _ => rfl) (fun x9 => ?_)
        exact qb_exit (fun σ h => qj_goto hX 35 rfl (by decide) (qj_wk (ρ' := [some (.ref (qx_ad X this)), some (.ref (qx_ad X p1)), some (.int x9)]) (qw_s (qw_s (qw_s (qw_0)))) h))
    · intro s6
      exact qb_vret hX 36 rfl hR (fun _ h => h)
theorem jm_Run_copyFrom {l : Launch} {G : qm_G} (hG : qm_GI G) (this : Nat) (p1 : Nat) (hthis : (qm_kd this).1 = 14) (hp1 : (qm_kd p1).1 = 14) : qm_MV l G jy_Run_copyFrom prog_6_method_4_code 3 0 0 [.ref (G.1 this), .ref (G.1 p1)] (jf_Run_copyFrom this p1) :=
  qm_metV (by decide +kernel) jd_Run_copyFrom (fun v hv => by simp only [List.mem_cons, List.not_mem_nil, or_false] at hv; rcases hv with rfl | rfl <;> rfl) (by exact Nat.le_of_ble_eq_true rfl) hG (fun X hl hg hX σ0 hR => by subst hl; subst hg; exact jb_Run_copyFrom hX hR this p1 hthis hp1)
