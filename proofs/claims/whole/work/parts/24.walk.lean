def jl_Run_allPieces : List qm_I := [(0, .iconst 0, 1, 1), (1, .istore_n 1, 1, 2), (2, .iconst 0, 1, 3), (3, .istore_n 2, 1, 4), (4, .iload_n 2, 1, 5), (5, .aload_n 0, 1, 6), (6, .getfield 27, 3, 9), (9, .if_icmp .ge 18, 3, 12), (12, .iload_n 1, 1, 13), (13, .aload_n 0, 1, 14), (14, .iload_n 2, 1, 15), (15, .iconst 1, 1, 16), (16, .invokevirtual 42, 3, 19), (19, .iadd, 1, 20), (20, .istore_n 1, 1, 21), (21, .iinc 2 1, 3, 24), (24, .goto (-20), 3, 27), (27, .iload_n 1, 1, 28), (28, .ireturn, 1, 29)]
theorem jd_Run_allPieces : qm_D prog_6_method_11_code jl_Run_allPieces := qm_D_of (by decide +kernel)
noncomputable def jf_Run_allPieces (this : Nat) : qm_M Int32 :=
  mB (α := Int32) (
    mW (S := Int32 × Int32) (α := Int32) (fun s2 =>
      mB (mGt this 0) fun x3 =>
      if x3 ≤ s2.2 then
        mP (Sum.inr s2.1)
      else
        mB (jf_Run_cell this s2.2 1) fun x4 =>
        mB (mP (s2.1 + x4)) fun x5 =>
        mB (mP (s2.2 + 1)) fun x6 =>
        mP (Sum.inl (x5, x6))) (0, 0)) fun s1 =>
  mP s1
set_option maxRecDepth 20000 in
set_option maxHeartbeats 4000000 in
theorem jb_Run_allPieces {X : qm_X} (hX : qm_ok X qr_Run prog_6_method_11_code 3 1 22 jl_Run_allPieces) {r0 : Int32} {σ0 : qm_Mem} (hR : qm_RI X r0 σ0 .int) (this : Nat) (hthis : (qm_kd this).1 = 14) : qm_B X (jf_Run_allPieces this) 0 [some (.ref (qx_ad X this)), none, none] [] (fun r σ1 => r = r0 ∧ σ1 = σ0) := by
  unfold jf_Run_allPieces
  refine qb_iconst hX 0 0 rfl (by decide) ?_
  refine qb_istore_n hX 1 ([some (.ref (qx_ad X this)), some (.int 0), none]) rfl (by decide) rfl ?_
  refine qb_iconst hX 2 0 rfl (by decide) ?_
  refine qb_istore_n hX 3 ([some (.ref (qx_ad X this)), some (.int 0), some (.int 0)]) rfl (by decide) rfl ?_
  refine qb_join 27 (fun s1 => [none, some (.int s1), none]) (fun s1 => []) ?_ ?_
  ·
    refine qb_loopw ((0, 0)) (fun s2 => [some (.ref (qx_ad X this)), some (.int s2.1), some (.int s2.2)]) (qw_s (qw_s (qw_s (qw_0)))) (fun s2 => ?_)
    refine qb_iload_n hX 4 rfl rfl ?_
    refine qb_aload_n hX 5 rfl rfl ?_
    refine qb_get hX 6 rfl fl_Run_27 hthis rfl (fun x3 => ?_)
    refine qb_icge hX 7 27 rfl (by decide) ?_ ?_
    ·
      exact qb_exit (fun σ h => qj_wk (ρ' := [none, some (.int s2.1), none]) (qw_n (qw_s (qw_n (qw_0)))) h)
    ·
      refine qb_iload_n hX 8 rfl rfl ?_
      refine qb_aload_n hX 9 rfl rfl ?_
      refine qb_iload_n hX 10 rfl rfl ?_
      refine qb_iconst hX 11 1 rfl (by decide) ?_
      refine qb_callI hX 12 rfl cv_Run_42 (jm_Run_cell (qk_GI hX) this s2.2 1 hthis ) (ci := 4) hthis ⟨rfl, rfl, rfl, by decide, by decide⟩ rfl (by exact Nat.le_of_ble_eq_true rfl) (fun x4 => ?_)
      refine qb_iadd hX 13 rfl ?_
      refine qb_istore_nL hX 14 (fun x5 => [some (.ref (qx_ad X this)), some (.int x5), some (.int s2.2)]) rfl (by decide) (fun _ => rfl) (fun x5 => ?_)
      refine qb_iinc hX 15 1 (fun x6 => [some (.ref (qx_ad X this)), some (.int x5), some (.int x6)]) rfl (by decide) (by decide) rfl (fun _ => rfl) (fun x6 => ?_)
      exact qb_exit (fun σ h => qj_goto hX 16 rfl (by decide) (qj_wk (ρ' := [some (.ref (qx_ad X this)), some (.int x5), some (.int x6)]) (qw_s (qw_s (qw_s (qw_0)))) h))
  · intro s1
    refine qb_iload_n hX 17 rfl rfl ?_
    exact qb_iret hX 18 rfl hR (fun _ h => h)
theorem jm_Run_allPieces {l : Launch} {G : qm_G} (hG : qm_GI G) (this : Nat) (hthis : (qm_kd this).1 = 14) : qm_MI l G jy_Run_allPieces prog_6_method_11_code 3 (some .int) 1 22 [.ref (G.1 this)] (jf_Run_allPieces this) :=
  qm_metI (by decide +kernel) jd_Run_allPieces (fun v hv => by simp only [List.mem_cons, List.not_mem_nil, or_false] at hv; rcases hv with rfl <;> rfl) (by exact Nat.le_of_ble_eq_true rfl) hG rfl (fun X hl hg hX r0 σ0 hR => by subst hl; subst hg; exact jb_Run_allPieces hX hR this hthis)
def jl_Run_add : List qm_I := [(0, .aload_n 0, 1, 1), (1, .getfield 27, 3, 4), (4, .istore_n 2, 1, 5), (5, .iload_n 2, 1, 6), (6, .bipush 16, 2, 8), (8, .if_icmp .ge 41, 3, 11), (11, .iconst 0, 1, 12), (12, .istore_n 3, 1, 13), (13, .iload_n 3, 1, 14), (14, .bipush 16, 2, 16), (16, .if_icmp .ge 16, 3, 19), (19, .aload_n 0, 1, 20), (20, .iload_n 2, 1, 21), (21, .iload_n 3, 1, 22), (22, .iconst 0, 1, 23), (23, .invokevirtual 46, 3, 26), (26, .iinc 3 1, 3, 29), (29, .goto (-16), 3, 32), (32, .aload_n 0, 1, 33), (33, .iload_n 2, 1, 34), (34, .iconst 0, 1, 35), (35, .iload_n 1, 1, 36), (36, .invokevirtual 46, 3, 39), (39, .aload_n 0, 1, 40), (40, .dup, 1, 41), (41, .getfield 27, 3, 44), (44, .iconst 1, 1, 45), (45, .iadd, 1, 46), (46, .putfield 27, 3, 49), (49, .iload_n 2, 1, 50), (50, .ireturn, 1, 51)]
theorem jd_Run_add : qm_D prog_6_method_12_code jl_Run_add := qm_D_of (by decide +kernel)
noncomputable def jf_Run_add (this : Nat) (p1 : Int32) : qm_M Int32 :=
  mB (mGt this 0) fun x1 =>
  if 16 ≤ x1 then
    mP x1
  else
    mB (α := Unit) (
      mW (S := Int32) (α := Unit) (fun s3 =>
        if 16 ≤ s3 then
          mP (Sum.inr ())
        else
          mB (jf_Run_putCell this x1 s3 0) fun _ =>
          mB (mP (s3 + 1)) fun x4 =>
          mP (Sum.inl x4)) 0) fun s2 =>
    mB (jf_Run_putCell this x1 0 p1) fun _ =>
    mB (mGt this 0) fun x5 =>
    mB (mPt this 0 (x5 + 1)) fun _ =>
    mP x1
set_option maxRecDepth 20000 in
set_option maxHeartbeats 4000000 in
theorem jb_Run_add {X : qm_X} (hX : qm_ok X qr_Run prog_6_method_12_code 4 1 23 jl_Run_add) {r0 : Int32} {σ0 : qm_Mem} (hR : qm_RI X r0 σ0 .int) (this : Nat) (p1 : Int32) (hthis : (qm_kd this).1 = 14) : qm_B X (jf_Run_add this p1) 0 [some (.ref (qx_ad X this)), some (.int p1), none, none] [] (fun r σ1 => r = r0 ∧ σ1 = σ0) := by
  unfold jf_Run_add
  refine qb_aload_n hX 0 rfl rfl ?_
  refine qb_get hX 1 rfl fl_Run_27 hthis rfl (fun x1 => ?_)
  refine qb_istore_n hX 2 ([some (.ref (qx_ad X this)), some (.int p1), some (.int x1), none]) rfl (by decide) rfl ?_
  refine qb_iload_n hX 3 rfl rfl ?_
  refine qb_bipush hX 4 16 rfl (by decide) ?_
  refine qb_icge hX 5 49 rfl (by decide) ?_ ?_
  ·
    refine qb_iload_n hX 29 rfl rfl ?_
    exact qb_iret hX 30 rfl hR (fun _ h => h)
  ·
    refine qb_iconst hX 6 0 rfl (by decide) ?_
    refine qb_istore_n hX 7 ([some (.ref (qx_ad X this)), some (.int p1), some (.int x1), some (.int 0)]) rfl (by decide) rfl ?_
    refine qb_join 32 (fun s2 => [some (.ref (qx_ad X this)), some (.int p1), some (.int x1), none]) (fun s2 => []) ?_ ?_
    ·
      refine qb_loopw (0) (fun s3 => [some (.ref (qx_ad X this)), some (.int p1), some (.int x1), some (.int s3)]) (qw_s (qw_s (qw_s (qw_s (qw_0))))) (fun s3 => ?_)
      refine qb_iload_n hX 8 rfl rfl ?_
      refine qb_bipush hX 9 16 rfl (by decide) ?_
      refine qb_icge hX 10 32 rfl (by decide) ?_ ?_
      ·
        exact qb_exit (fun σ h => qj_wk (ρ' := [some (.ref (qx_ad X this)), some (.int p1), some (.int x1), none]) (qw_s (qw_s (qw_s (qw_n (qw_0))))) h)
      ·
        refine qb_aload_n hX 11 rfl rfl ?_
        refine qb_iload_n hX 12 rfl rfl ?_
        refine qb_iload_n hX 13 rfl rfl ?_
        refine qb_iconst hX 14 0 rfl (by decide) ?_
        refine qb_callV hX 15 rfl cv_Run_46 (jm_Run_putCell (qk_GI hX) this x1 s3 0 hthis ) (ci := 4) hthis ⟨rfl, rfl, rfl, by decide, by decide⟩ rfl (by exact Nat.le_of_ble_eq_true rfl) ?_
        refine qb_iinc hX 16 1 (fun x4 => [some (.ref (qx_ad X this)), some (.int p1), some (.int x1), some (.int x4)]) rfl (by decide) (by decide) rfl (fun _ => rfl) (fun x4 => ?_)
        exact qb_exit (fun σ h => qj_goto hX 17 rfl (by decide) (qj_wk (ρ' := [some (.ref (qx_ad X this)), some (.int p1), some (.int x1), some (.int x4)]) (qw_s (qw_s (qw_s (qw_s (qw_0))))) h))
    · intro s2
      refine qb_aload_n hX 18 rfl rfl ?_
      refine qb_iload_n hX 19 rfl rfl ?_
      refine qb_iconst hX 20 0 rfl (by decide) ?_
      refine qb_iload_n hX 21 rfl rfl ?_
      refine qb_callV hX 22 rfl cv_Run_46 (jm_Run_putCell (qk_GI hX) this x1 0 p1 hthis ) (ci := 4) hthis ⟨rfl, rfl, rfl, by decide, by decide⟩ rfl (by exact Nat.le_of_ble_eq_true rfl) ?_
      refine qb_aload_n hX 23 rfl rfl ?_
      refine qb_dup hX 24 rfl rfl ?_
      refine qb_get hX 25 rfl fl_Run_27 hthis rfl (fun x5 => ?_)
      refine qb_iconst hX 26 1 rfl (by decide) ?_
      refine qb_iadd hX 27 rfl ?_
      refine qb_put hX 28 rfl fp_Run_27 hthis ?_
      refine qb_iload_n hX 29 rfl rfl ?_
      exact qb_iret hX 30 rfl hR (fun _ h => h)
theorem jm_Run_add {l : Launch} {G : qm_G} (hG : qm_GI G) (this : Nat) (p1 : Int32) (hthis : (qm_kd this).1 = 14) : qm_MI l G jy_Run_add prog_6_method_12_code 4 (some .int) 1 23 [.ref (G.1 this), .int p1] (jf_Run_add this p1) :=
  qm_metI (by decide +kernel) jd_Run_add (fun v hv => by simp only [List.mem_cons, List.not_mem_nil, or_false] at hv; rcases hv with rfl | rfl <;> rfl) (by exact Nat.le_of_ble_eq_true rfl) hG rfl (fun X hl hg hX r0 σ0 hR => by subst hl; subst hg; exact jb_Run_add hX hR this p1 hthis)
def jl_Run_exchange : List qm_I := [(0, .iconst 0, 1, 1), (1, .istore_n 3, 1, 2), (2, .iload_n 3, 1, 3), (3, .bipush 16, 2, 5), (5, .if_icmp .ge 37, 3, 8), (8, .aload_n 0, 1, 9), (9, .iload_n 1, 1, 10), (10, .iload_n 3, 1, 11), (11, .invokevirtual 42, 3, 14), (14, .istore 4, 2, 16), (16, .aload_n 0, 1, 17), (17, .iload_n 1, 1, 18), (18, .iload_n 3, 1, 19), (19, .aload_n 0, 1, 20), (20, .iload_n 2, 1, 21), (21, .iload_n 3, 1, 22), (22, .invokevirtual 42, 3, 25), (25, .invokevirtual 46, 3, 28), (28, .aload_n 0, 1, 29), (29, .iload_n 2, 1, 30), (30, .iload_n 3, 1, 31), (31, .iload 4, 2, 33), (33, .invokevirtual 46, 3, 36), (36, .iinc 3 1, 3, 39), (39, .goto (-37), 3, 42), (42, .return_, 1, 43)]
theorem jd_Run_exchange : qm_D prog_6_method_13_code jl_Run_exchange := qm_D_of (by decide +kernel)
noncomputable def jf_Run_exchange (this : Nat) (p1 : Int32) (p2 : Int32) : qm_M Unit :=
  mB (α := Unit) (
    mW (S := Int32) (α := Unit) (fun s2 =>
      if 16 ≤ s2 then
        mP (Sum.inr ())
      else
        mB (jf_Run_cell this p1 s2) fun x3 =>
        mB (jf_Run_cell this p2 s2) fun x4 =>
        mB (jf_Run_putCell this p1 s2 x4) fun _ =>
        mB (jf_Run_putCell this p2 s2 x3) fun _ =>
        mB (mP (s2 + 1)) fun x5 =>
        mP (Sum.inl x5)) 0) fun s1 =>
  mP ()
set_option maxRecDepth 20000 in
set_option maxHeartbeats 4000000 in
theorem jb_Run_exchange {X : qm_X} (hX : qm_ok X qr_Run prog_6_method_13_code 5 1 23 jl_Run_exchange) {σ0 : qm_Mem} (hR : qm_RV X σ0) (this : Nat) (p1 : Int32) (p2 : Int32) (hthis : (qm_kd this).1 = 14) : qm_B X (jf_Run_exchange this p1 p2) 0 [some (.ref (qx_ad X this)), some (.int p1), some (.int p2), none, none] [] (fun _ σ1 => σ1 = σ0) := by
  unfold jf_Run_exchange
  refine qb_iconst hX 0 0 rfl (by decide) ?_
  refine qb_istore_n hX 1 ([some (.ref (qx_ad X this)), some (.int p1), some (.int p2), some (.int 0), none]) rfl (by decide) rfl ?_
  refine qb_join 42 (fun s1 => [none, none, none, none, none]) (fun s1 => []) ?_ ?_
  ·
    refine qb_loopw (0) (fun s2 => [some (.ref (qx_ad X this)), some (.int p1), some (.int p2), some (.int s2), none]) (qw_s (qw_s (qw_s (qw_s (qw_n (qw_0)))))) (fun s2 => ?_)
    refine qb_iload_n hX 2 rfl rfl ?_
    refine qb_bipush hX 3 16 rfl (by decide) ?_
    refine qb_icge hX 4 42 rfl (by decide) ?_ ?_
    ·
      exact qb_exit (fun σ h => qj_wk (ρ' := [none, none, none, none, none]) (qw_n (qw_n (qw_n (qw_n (qw_n (qw_0)))))) h)
    ·
      refine qb_aload_n hX 5 rfl rfl ?_
      refine qb_iload_n hX 6 rfl rfl ?_
      refine qb_iload_n hX 7 rfl rfl ?_
      refine qb_callI hX 8 rfl cv_Run_42 (jm_Run_cell (qk_GI hX) this p1 s2 hthis ) (ci := 4) hthis ⟨rfl, rfl, rfl, by decide, by decide⟩ rfl (by exact Nat.le_of_ble_eq_true rfl) (fun x3 => ?_)
      refine qb_istore hX 9 ([some (.ref (qx_ad X this)), some (.int p1), some (.int p2), some (.int s2), some (.int x3)]) rfl (by decide) rfl ?_
      refine qb_aload_n hX 10 rfl rfl ?_
      refine qb_iload_n hX 11 rfl rfl ?_
      refine qb_iload_n hX 12 rfl rfl ?_
      refine qb_aload_n hX 13 rfl rfl ?_
      refine qb_iload_n hX 14 rfl rfl ?_
      refine qb_iload_n hX 15 rfl rfl ?_
      refine qb_callI hX 16 rfl cv_Run_42 (jm_Run_cell (qk_GI hX) this p2 s2 hthis ) (ci := 4) hthis ⟨rfl, rfl, rfl, by decide, by decide⟩ rfl (by exact Nat.le_of_ble_eq_true rfl) (fun x4 => ?_)
      refine qb_callV hX 17 rfl cv_Run_46 (jm_Run_putCell (qk_GI hX) this p1 s2 x4 hthis ) (ci := 4) hthis ⟨rfl, rfl, rfl, by decide, by decide⟩ rfl (by exact Nat.le_of_ble_eq_true rfl) ?_
      refine qb_aload_n hX 18 rfl rfl ?_
      refine qb_iload_n hX 19 rfl rfl ?_
      refine qb_iload_n hX 20 rfl rfl ?_
      refine qb_iload hX 21 rfl rfl ?_
      refine qb_callV hX 22 rfl cv_Run_46 (jm_Run_putCell (qk_GI hX) this p2 s2 x3 hthis ) (ci := 4) hthis ⟨rfl, rfl, rfl, by decide, by decide⟩ rfl (by exact Nat.le_of_ble_eq_true rfl) ?_
      refine qb_iinc hX 23 1 (fun x5 => [some (.ref (qx_ad X this)), some (.int p1), some (.int p2), some (.int x5), some (.int x3)]) rfl (by decide) (by decide) rfl (fun _ => rfl) (fun x5 => ?_)
      exact qb_exit (fun σ h => qj_goto hX 24 rfl (by decide) (qj_wk (ρ' := [some (.ref (qx_ad X this)), some (.int p1), some (.int p2), some (.int x5), none]) (qw_s (qw_s (qw_s (qw_s (qw_n (qw_0)))))) h))
  · intro s1
    exact qb_vret hX 25 rfl hR (fun _ h => h)
theorem jm_Run_exchange {l : Launch} {G : qm_G} (hG : qm_GI G) (this : Nat) (p1 : Int32) (p2 : Int32) (hthis : (qm_kd this).1 = 14) : qm_MV l G jy_Run_exchange prog_6_method_13_code 5 1 23 [.ref (G.1 this), .int p1, .int p2] (jf_Run_exchange this p1 p2) :=
  qm_metV (by decide +kernel) jd_Run_exchange (fun v hv => by simp only [List.mem_cons, List.not_mem_nil, or_false] at hv; rcases hv with rfl | rfl | rfl <;> rfl) (by exact Nat.le_of_ble_eq_true rfl) hG (fun X hl hg hX σ0 hR => by subst hl; subst hg; exact jb_Run_exchange hX hR this p1 p2 hthis)
def jl_Run_copyCells : List qm_I := [(0, .iconst 0, 1, 1), (1, .istore_n 3, 1, 2), (2, .iload_n 3, 1, 3), (3, .bipush 16, 2, 5), (5, .if_icmp .ge 21, 3, 8), (8, .aload_n 0, 1, 9), (9, .iload_n 2, 1, 10), (10, .iload_n 3, 1, 11), (11, .aload_n 0, 1, 12), (12, .iload_n 1, 1, 13), (13, .iload_n 3, 1, 14), (14, .invokevirtual 42, 3, 17), (17, .invokevirtual 46, 3, 20), (20, .iinc 3 1, 3, 23), (23, .goto (-21), 3, 26), (26, .return_, 1, 27)]
theorem jd_Run_copyCells : qm_D prog_6_method_16_code jl_Run_copyCells := qm_D_of (by decide +kernel)
noncomputable def jf_Run_copyCells (this : Nat) (p1 : Int32) (p2 : Int32) : qm_M Unit :=
  mB (α := Unit) (
    mW (S := Int32) (α := Unit) (fun s2 =>
      if 16 ≤ s2 then
        mP (Sum.inr ())
      else
        mB (jf_Run_cell this p1 s2) fun x3 =>
        mB (jf_Run_putCell this p2 s2 x3) fun _ =>
        mB (mP (s2 + 1)) fun x4 =>
        mP (Sum.inl x4)) 0) fun s1 =>
  mP ()
set_option maxRecDepth 20000 in
set_option maxHeartbeats 4000000 in
theorem jb_Run_copyCells {X : qm_X} (hX : qm_ok X qr_Run prog_6_method_16_code 4 1 23 jl_Run_copyCells) {σ0 : qm_Mem} (hR : qm_RV X σ0) (this : Nat) (p1 : Int32) (p2 : Int32) (hthis : (qm_kd this).1 = 14) : qm_B X (jf_Run_copyCells this p1 p2) 0 [some (.ref (qx_ad X this)), some (.int p1), some (.int p2), none] [] (fun _ σ1 => σ1 = σ0) := by
  unfold jf_Run_copyCells
  refine qb_iconst hX 0 0 rfl (by decide) ?_
  refine qb_istore_n hX 1 ([some (.ref (qx_ad X this)), some (.int p1), some (.int p2), some (.int 0)]) rfl (by decide) rfl ?_
  refine qb_join 26 (fun s1 => [none, none, none, none]) (fun s1 => []) ?_ ?_
  ·
    refine qb_loopw (0) (fun s2 => [some (.ref (qx_ad X this)), some (.int p1), some (.int p2), some (.int s2)]) (qw_s (qw_s (qw_s (qw_s (qw_0))))) (fun s2 => ?_)
    refine qb_iload_n hX 2 rfl rfl ?_
    refine qb_bipush hX 3 16 rfl (by decide) ?_
    refine qb_icge hX 4 26 rfl (by decide) ?_ ?_
    ·
      exact qb_exit (fun σ h => qj_wk (ρ' := [none, none, none, none]) (qw_n (qw_n (qw_n (qw_n (qw_0))))) h)
    ·
      refine qb_aload_n hX 5 rfl rfl ?_
      refine qb_iload_n hX 6 rfl rfl ?_
      refine qb_iload_n hX 7 rfl rfl ?_
      refine qb_aload_n hX 8 rfl rfl ?_
      refine qb_iload_n hX 9 rfl rfl ?_
      refine qb_iload_n hX 10 rfl rfl ?_
      refine qb_callI hX 11 rfl cv_Run_42 (jm_Run_cell (qk_GI hX) this p1 s2 hthis ) (ci := 4) hthis ⟨rfl, rfl, rfl, by decide, by decide⟩ rfl (by exact Nat.le_of_ble_eq_true rfl) (fun x3 => ?_)
      refine qb_callV hX 12 rfl cv_Run_46 (jm_Run_putCell (qk_GI hX) this p2 s2 x3 hthis ) (ci := 4) hthis ⟨rfl, rfl, rfl, by decide, by decide⟩ rfl (by exact Nat.le_of_ble_eq_true rfl) ?_
      refine qb_iinc hX 13 1 (fun x4 => [some (.ref (qx_ad X this)), some (.int p1), some (.int p2), some (.int x4)]) rfl (by decide) (by decide) rfl (fun _ => rfl) (fun x4 => ?_)
      exact qb_exit (fun σ h => qj_goto hX 14 rfl (by decide) (qj_wk (ρ' := [some (.ref (qx_ad X this)), some (.int p1), some (.int p2), some (.int x4)]) (qw_s (qw_s (qw_s (qw_s (qw_0))))) h))
  · intro s1
    exact qb_vret hX 15 rfl hR (fun _ h => h)
theorem jm_Run_copyCells {l : Launch} {G : qm_G} (hG : qm_GI G) (this : Nat) (p1 : Int32) (p2 : Int32) (hthis : (qm_kd this).1 = 14) : qm_MV l G jy_Run_copyCells prog_6_method_16_code 4 1 23 [.ref (G.1 this), .int p1, .int p2] (jf_Run_copyCells this p1 p2) :=
  qm_metV (by decide +kernel) jd_Run_copyCells (fun v hv => by simp only [List.mem_cons, List.not_mem_nil, or_false] at hv; rcases hv with rfl | rfl | rfl <;> rfl) (by exact Nat.le_of_ble_eq_true rfl) hG (fun X hl hg hX σ0 hR => by subst hl; subst hg; exact jb_Run_copyCells hX hR this p1 p2 hthis)
def jl_Run_repeat : List qm_I := [(0, .aload_n 0, 1, 1), (1, .aload_n 0, 1, 2), (2, .iload_n 1, 1, 3), (3, .iconst 0, 1, 4), (4, .invokevirtual 42, 3, 7), (7, .invokevirtual 50, 3, 10), (10, .istore_n 2, 1, 11), (11, .aload_n 0, 1, 12), (12, .iload_n 1, 1, 13), (13, .iload_n 2, 1, 14), (14, .invokevirtual 54, 3, 17), (17, .return_, 1, 18)]
theorem jd_Run_repeat : qm_D prog_6_method_14_code jl_Run_repeat := qm_D_of (by decide +kernel)
noncomputable def jf_Run_repeat (this : Nat) (p1 : Int32) : qm_M Unit :=
  mB (jf_Run_cell this p1 0) fun x1 =>
  mB (jf_Run_add this x1) fun x2 =>
  mB (jf_Run_copyCells this p1 x2) fun _ =>
  mP ()
set_option maxRecDepth 20000 in
set_option maxHeartbeats 4000000 in
theorem jb_Run_repeat {X : qm_X} (hX : qm_ok X qr_Run prog_6_method_14_code 3 2 46 jl_Run_repeat) {σ0 : qm_Mem} (hR : qm_RV X σ0) (this : Nat) (p1 : Int32) (hthis : (qm_kd this).1 = 14) : qm_B X (jf_Run_repeat this p1) 0 [some (.ref (qx_ad X this)), some (.int p1), none] [] (fun _ σ1 => σ1 = σ0) := by
  unfold jf_Run_repeat
  refine qb_aload_n hX 0 rfl rfl ?_
  refine qb_aload_n hX 1 rfl rfl ?_
  refine qb_iload_n hX 2 rfl rfl ?_
  refine qb_iconst hX 3 0 rfl (by decide) ?_
  refine qb_callI hX 4 rfl cv_Run_42 (jm_Run_cell (qk_GI hX) this p1 0 hthis ) (ci := 4) hthis ⟨rfl, rfl, rfl, by decide, by decide⟩ rfl (by exact Nat.le_of_ble_eq_true rfl) (fun x1 => ?_)
  refine qb_callI hX 5 rfl cv_Run_50 (jm_Run_add (qk_GI hX) this x1 hthis ) (ci := 4) hthis ⟨rfl, rfl, rfl, by decide, by decide⟩ rfl (by exact Nat.le_of_ble_eq_true rfl) (fun x2 => ?_)
  refine qb_istore_n hX 6 ([some (.ref (qx_ad X this)), some (.int p1), some (.int x2)]) rfl (by decide) rfl ?_
  refine qb_aload_n hX 7 rfl rfl ?_
  refine qb_iload_n hX 8 rfl rfl ?_
  refine qb_iload_n hX 9 rfl rfl ?_
  refine qb_callV hX 10 rfl cv_Run_54 (jm_Run_copyCells (qk_GI hX) this p1 x2 hthis ) (ci := 4) hthis ⟨rfl, rfl, rfl, by decide, by decide⟩ rfl (by exact Nat.le_of_ble_eq_true rfl) ?_
  exact qb_vret hX 11 rfl hR (fun _ h => h)
theorem jm_Run_repeat {l : Launch} {G : qm_G} (hG : qm_GI G) (this : Nat) (p1 : Int32) (hthis : (qm_kd this).1 = 14) : qm_MV l G jy_Run_repeat prog_6_method_14_code 3 2 46 [.ref (G.1 this), .int p1] (jf_Run_repeat this p1) :=
  qm_metV (by decide +kernel) jd_Run_repeat (fun v hv => by simp only [List.mem_cons, List.not_mem_nil, or_false] at hv; rcases hv with rfl | rfl <;> rfl) (by exact Nat.le_of_ble_eq_true rfl) hG (fun X hl hg hX σ0 hR => by subst hl; subst hg; exact jb_Run_repeat hX hR this p1 hthis)
def jl_Run_remove : List qm_I := [(0, .iload_n 1, 1, 1), (1, .istore_n 2, 1, 2), (2, .iload_n 2, 1, 3), (3, .iconst 1, 1, 4), (4, .iadd, 1, 5), (5, .aload_n 0, 1, 6), (6, .getfield 27, 3, 9), (9, .if_icmp .ge 17, 3, 12), (12, .aload_n 0, 1, 13), (13, .iload_n 2, 1, 14), (14, .iconst 1, 1, 15), (15, .iadd, 1, 16), (16, .iload_n 2, 1, 17), (17, .invokevirtual 54, 3, 20), (20, .iinc 2 1, 3, 23), (23, .goto (-21), 3, 26), (26, .aload_n 0, 1, 27), (27, .dup, 1, 28), (28, .getfield 27, 3, 31), (31, .iconst 1, 1, 32), (32, .isub, 1, 33), (33, .putfield 27, 3, 36), (36, .return_, 1, 37)]
theorem jd_Run_remove : qm_D prog_6_method_15_code jl_Run_remove := qm_D_of (by decide +kernel)
noncomputable def jf_Run_remove (this : Nat) (p1 : Int32) : qm_M Unit :=
  mB (α := Unit) (
    mW (S := Int32) (α := Unit) (fun s2 =>
      mB (mGt this 0) fun x3 =>
      if x3 ≤ (s2 + 1) then
        mP (Sum.inr ())
      else
        mB (jf_Run_copyCells this (s2 + 1) s2) fun _ =>
        mB (mP (s2 + 1)) fun x4 =>
        mP (Sum.inl x4)) p1) fun s1 =>
  mB (mGt this 0) fun x5 =>
  mB (mPt this 0 (x5 - 1)) fun _ =>
  mP ()
set_option maxRecDepth 20000 in
set_option maxHeartbeats 4000000 in
theorem jb_Run_remove {X : qm_X} (hX : qm_ok X qr_Run prog_6_method_15_code 3 2 46 jl_Run_remove) {σ0 : qm_Mem} (hR : qm_RV X σ0) (this : Nat) (p1 : Int32) (hthis : (qm_kd this).1 = 14) : qm_B X (jf_Run_remove this p1) 0 [some (.ref (qx_ad X this)), some (.int p1), none] [] (fun _ σ1 => σ1 = σ0) := by
  unfold jf_Run_remove
  refine qb_iload_n hX 0 rfl rfl ?_
  refine qb_istore_n hX 1 ([some (.ref (qx_ad X this)), some (.int p1), some (.int p1)]) rfl (by decide) rfl ?_
  refine qb_join 26 (fun s1 => [some (.ref (qx_ad X this)), none, none]) (fun s1 => []) ?_ ?_
  ·
    refine qb_loopw (p1) (fun s2 => [some (.ref (qx_ad X this)), none, some (.int s2)]) (qw_s (qw_n (qw_s (qw_0)))) (fun s2 => ?_)
    refine qb_iload_n hX 2 rfl rfl ?_
    refine qb_iconst hX 3 1 rfl (by decide) ?_
    refine qb_iadd hX 4 rfl ?_
    refine qb_aload_n hX 5 rfl rfl ?_
    refine qb_get hX 6 rfl fl_Run_27 hthis rfl (fun x3 => ?_)
    refine qb_icge hX 7 26 rfl (by decide) ?_ ?_
    ·
      exact qb_exit (fun σ h => qj_wk (ρ' := [some (.ref (qx_ad X this)), none, none]) (qw_s (qw_n (qw_n (qw_0)))) h)
    ·
      refine qb_aload_n hX 8 rfl rfl ?_
      refine qb_iload_n hX 9 rfl rfl ?_
      refine qb_iconst hX 10 1 rfl (by decide) ?_
      refine qb_iadd hX 11 rfl ?_
      refine qb_iload_n hX 12 rfl rfl ?_
      refine qb_callV hX 13 rfl cv_Run_54 (jm_Run_copyCells (qk_GI hX) this (s2 + 1) s2 hthis ) (ci := 4) hthis ⟨rfl, rfl, rfl, by decide, by decide⟩ rfl (by exact Nat.le_of_ble_eq_true rfl) ?_
      refine qb_iinc hX 14 1 (fun x4 => [some (.ref (qx_ad X this)), none, some (.int x4)]) rfl (by decide) (by decide) rfl (fun _ => rfl) (fun x4 => ?_)
      exact qb_exit (fun σ h => qj_goto hX 15 rfl (by decide) (qj_wk (ρ' := [some (.ref (qx_ad X this)), none, some (.int x4)]) (qw_s (qw_n (qw_s (qw_0)))) h))
  · intro s1
    refine qb_aload_n hX 16 rfl rfl ?_
    refine qb_dup hX 17 rfl rfl ?_
    refine qb_get hX 18 rfl fl_Run_27 hthis rfl (fun x5 => ?_)
    refine qb_iconst hX 19 1 rfl (by decide) ?_
    refine qb_isub hX 20 rfl ?_
    refine qb_put hX 21 rfl fp_Run_27 hthis ?_
    exact qb_vret hX 22 rfl hR (fun _ h => h)
theorem jm_Run_remove {l : Launch} {G : qm_G} (hG : qm_GI G) (this : Nat) (p1 : Int32) (hthis : (qm_kd this).1 = 14) : qm_MV l G jy_Run_remove prog_6_method_15_code 3 2 46 [.ref (G.1 this), .int p1] (jf_Run_remove this p1) :=
  qm_metV (by decide +kernel) jd_Run_remove (fun v hv => by simp only [List.mem_cons, List.not_mem_nil, or_false] at hv; rcases hv with rfl | rfl <;> rfl) (by exact Nat.le_of_ble_eq_true rfl) hG (fun X hl hg hX σ0 hR => by subst hl; subst hg; exact jb_Run_remove hX hR this p1 hthis)
def jl_Run_addMark : List qm_I := [(0, .aload_n 0, 1, 1), (1, .iload_n 1, 1, 2), (2, .bipush 7, 2, 4), (4, .invokevirtual 42, 3, 7), (7, .istore 4, 2, 9), (9, .iload 4, 2, 11), (11, .ifCond .lt 42, 3, 14), (14, .iload 4, 2, 16), (16, .iconst 4, 1, 17), (17, .if_icmp .ge 36, 3, 20), (20, .aload_n 0, 1, 21), (21, .iload_n 1, 1, 22), (22, .bipush 8, 2, 24), (24, .iload 4, 2, 26), (26, .iadd, 1, 27), (27, .iload_n 2, 1, 28), (28, .invokevirtual 46, 3, 31), (31, .aload_n 0, 1, 32), (32, .iload_n 1, 1, 33), (33, .bipush 12, 2, 35), (35, .iload 4, 2, 37), (37, .iadd, 1, 38), (38, .iload_n 3, 1, 39), (39, .invokevirtual 46, 3, 42), (42, .aload_n 0, 1, 43), (43, .iload_n 1, 1, 44), (44, .bipush 7, 2, 46), (46, .iload 4, 2, 48), (48, .iconst 1, 1, 49), (49, .iadd, 1, 50), (50, .invokevirtual 46, 3, 53), (53, .return_, 1, 54)]
theorem jd_Run_addMark : qm_D prog_6_method_18_code jl_Run_addMark := qm_D_of (by decide +kernel)
noncomputable def jf_Run_addMark (this : Nat) (p1 : Int32) (p2 : Int32) (p3 : Int32) : qm_M Unit :=
  mB (jf_Run_cell this p1 7) fun x1 =>
  if x1 < 0 then
    mP ()
  else
    if 4 ≤ x1 then
      mP ()
    else
      mB (jf_Run_putCell this p1 (8 + x1) p2) fun _ =>
      mB (jf_Run_putCell this p1 (12 + x1) p3) fun _ =>
      mB (jf_Run_putCell this p1 7 (x1 + 1)) fun _ =>
      mP ()
set_option maxRecDepth 20000 in
set_option maxHeartbeats 4000000 in
theorem jb_Run_addMark {X : qm_X} (hX : qm_ok X qr_Run prog_6_method_18_code 5 1 23 jl_Run_addMark) {σ0 : qm_Mem} (hR : qm_RV X σ0) (this : Nat) (p1 : Int32) (p2 : Int32) (p3 : Int32) (hthis : (qm_kd this).1 = 14) : qm_B X (jf_Run_addMark this p1 p2 p3) 0 [some (.ref (qx_ad X this)), some (.int p1), some (.int p2), some (.int p3), none] [] (fun _ σ1 => σ1 = σ0) := by
  unfold jf_Run_addMark
  refine qb_aload_n hX 0 rfl rfl ?_
  refine qb_iload_n hX 1 rfl rfl ?_
  refine qb_bipush hX 2 7 rfl (by decide) ?_
  refine qb_callI hX 3 rfl cv_Run_42 (jm_Run_cell (qk_GI hX) this p1 7 hthis ) (ci := 4) hthis ⟨rfl, rfl, rfl, by decide, by decide⟩ rfl (by exact Nat.le_of_ble_eq_true rfl) (fun x1 => ?_)
  refine qb_istore hX 4 ([some (.ref (qx_ad X this)), some (.int p1), some (.int p2), some (.int p3), some (.int x1)]) rfl (by decide) rfl ?_
  refine qb_iload hX 5 rfl rfl ?_
  refine qb_iflt hX 6 53 rfl (by decide) ?_ ?_
  ·
    exact qb_vret hX 31 rfl hR (fun _ h => h)
  ·
    refine qb_iload hX 7 rfl rfl ?_
    refine qb_iconst hX 8 4 rfl (by decide) ?_
    refine qb_icge hX 9 53 rfl (by decide) ?_ ?_
    ·
      exact qb_vret hX 31 rfl hR (fun _ h => h)
    ·
      refine qb_aload_n hX 10 rfl rfl ?_
      refine qb_iload_n hX 11 rfl rfl ?_
      refine qb_bipush hX 12 8 rfl (by decide) ?_
      refine qb_iload hX 13 rfl rfl ?_
      refine qb_iadd hX 14 rfl ?_
      refine qb_iload_n hX 15 rfl rfl ?_
      refine qb_callV hX 16 rfl cv_Run_46 (jm_Run_putCell (qk_GI hX) this p1 (8 + x1) p2 hthis ) (ci := 4) hthis ⟨rfl, rfl, rfl, by decide, by decide⟩ rfl (by exact Nat.le_of_ble_eq_true rfl) ?_
      refine qb_aload_n hX 17 rfl rfl ?_
      refine qb_iload_n hX 18 rfl rfl ?_
      refine qb_bipush hX 19 12 rfl (by decide) ?_
      refine qb_iload hX 20 rfl rfl ?_
      refine qb_iadd hX 21 rfl ?_
      refine qb_iload_n hX 22 rfl rfl ?_
      refine qb_callV hX 23 rfl cv_Run_46 (jm_Run_putCell (qk_GI hX) this p1 (12 + x1) p3 hthis ) (ci := 4) hthis ⟨rfl, rfl, rfl, by decide, by decide⟩ rfl (by exact Nat.le_of_ble_eq_true rfl) ?_
      refine qb_aload_n hX 24 rfl rfl ?_
      refine qb_iload_n hX 25 rfl rfl ?_
      refine qb_bipush hX 26 7 rfl (by decide) ?_
      refine qb_iload hX 27 rfl rfl ?_
      refine qb_iconst hX 28 1 rfl (by decide) ?_
      refine qb_iadd hX 29 rfl ?_
      refine qb_callV hX 30 rfl cv_Run_46 (jm_Run_putCell (qk_GI hX) this p1 7 (x1 + 1) hthis ) (ci := 4) hthis ⟨rfl, rfl, rfl, by decide, by decide⟩ rfl (by exact Nat.le_of_ble_eq_true rfl) ?_
      exact qb_vret hX 31 rfl hR (fun _ h => h)
theorem jm_Run_addMark {l : Launch} {G : qm_G} (hG : qm_GI G) (this : Nat) (p1 : Int32) (p2 : Int32) (p3 : Int32) (hthis : (qm_kd this).1 = 14) : qm_MV l G jy_Run_addMark prog_6_method_18_code 5 1 23 [.ref (G.1 this), .int p1, .int p2, .int p3] (jf_Run_addMark this p1 p2 p3) :=
  qm_metV (by decide +kernel) jd_Run_addMark (fun v hv => by simp only [List.mem_cons, List.not_mem_nil, or_false] at hv; rcases hv with rfl | rfl | rfl | rfl <;> rfl) (by exact Nat.le_of_ble_eq_true rfl) hG (fun X hl hg hX σ0 hR => by subst hl; subst hg; exact jb_Run_addMark hX hR this p1 p2 p3 hthis)
def jl_Run_clearCells : List qm_I := [(0, .iconst 0, 1, 1), (1, .istore_n 2, 1, 2), (2, .iload_n 2, 1, 3), (3, .aload_n 0, 1, 4), (4, .getfield 27, 3, 7), (7, .if_icmp .ge 16, 3, 10), (10, .aload_n 0, 1, 11), (11, .iload_n 2, 1, 12), (12, .iload_n 1, 1, 13), (13, .iconst 0, 1, 14), (14, .invokevirtual 46, 3, 17), (17, .iinc 2 1, 3, 20), (20, .goto (-18), 3, 23), (23, .return_, 1, 24)]
theorem jd_Run_clearCells : qm_D prog_6_method_20_code jl_Run_clearCells := qm_D_of (by decide +kernel)
noncomputable def jf_Run_clearCells (this : Nat) (p1 : Int32) : qm_M Unit :=
  mB (α := Unit) (
    mW (S := Int32) (α := Unit) (fun s2 =>
      mB (mGt this 0) fun x3 =>
      if x3 ≤ s2 then
        mP (Sum.inr ())
      else
        mB (jf_Run_putCell this s2 p1 0) fun _ =>
        mB (mP (s2 + 1)) fun x4 =>
        mP (Sum.inl x4)) 0) fun s1 =>
  mP ()
set_option maxRecDepth 20000 in
set_option maxHeartbeats 4000000 in
theorem jb_Run_clearCells {X : qm_X} (hX : qm_ok X qr_Run prog_6_method_20_code 3 1 23 jl_Run_clearCells) {σ0 : qm_Mem} (hR : qm_RV X σ0) (this : Nat) (p1 : Int32) (hthis : (qm_kd this).1 = 14) : qm_B X (jf_Run_clearCells this p1) 0 [some (.ref (qx_ad X this)), some (.int p1), none] [] (fun _ σ1 => σ1 = σ0) := by
  unfold jf_Run_clearCells
  refine qb_iconst hX 0 0 rfl (by decide) ?_
  refine qb_istore_n hX 1 ([some (.ref (qx_ad X this)), some (.int p1), some (.int 0)]) rfl (by decide) rfl ?_
  refine qb_join 23 (fun s1 => [none, none, none]) (fun s1 => []) ?_ ?_
  ·
    refine qb_loopw (0) (fun s2 => [some (.ref (qx_ad X this)), some (.int p1), some (.int s2)]) (qw_s (qw_s (qw_s (qw_0)))) (fun s2 => ?_)
    refine qb_iload_n hX 2 rfl rfl ?_
    refine qb_aload_n hX 3 rfl rfl ?_
    refine qb_get hX 4 rfl fl_Run_27 hthis rfl (fun x3 => ?_)
    refine qb_icge hX 5 23 rfl (by decide) ?_ ?_
    ·
      exact qb_exit (fun σ h => qj_wk (ρ' := [none, none, none]) (qw_n (qw_n (qw_n (qw_0)))) h)
    ·
      refine qb_aload_n hX 6 rfl rfl ?_
      refine qb_iload_n hX 7 rfl rfl ?_
      refine qb_iload_n hX 8 rfl rfl ?_
      refine qb_iconst hX 9 0 rfl (by decide) ?_
      refine qb_callV hX 10 rfl cv_Run_46 (jm_Run_putCell (qk_GI hX) this s2 p1 0 hthis ) (ci := 4) hthis ⟨rfl, rfl, rfl, by decide, by decide⟩ rfl (by exact Nat.le_of_ble_eq_true rfl) ?_
      refine qb_iinc hX 11 1 (fun x4 => [some (.ref (qx_ad X this)), some (.int p1), some (.int x4)]) rfl (by decide) (by decide) rfl (fun _ => rfl) (fun x4 => ?_)
      exact qb_exit (fun σ h => qj_goto hX 12 rfl (by decide) (qj_wk (ρ' := [some (.ref (qx_ad X this)), some (.int p1), some (.int x4)]) (qw_s (qw_s (qw_s (qw_0)))) h))
  · intro s1
    exact qb_vret hX 13 rfl hR (fun _ h => h)
theorem jm_Run_clearCells {l : Launch} {G : qm_G} (hG : qm_GI G) (this : Nat) (p1 : Int32) (hthis : (qm_kd this).1 = 14) : qm_MV l G jy_Run_clearCells prog_6_method_20_code 3 1 23 [.ref (G.1 this), .int p1] (jf_Run_clearCells this p1) :=
  qm_metV (by decide +kernel) jd_Run_clearCells (fun v hv => by simp only [List.mem_cons, List.not_mem_nil, or_false] at hv; rcases hv with rfl | rfl <;> rfl) (by exact Nat.le_of_ble_eq_true rfl) hG (fun X hl hg hX σ0 hR => by subst hl; subst hg; exact jb_Run_clearCells hX hR this p1 hthis)
def jl_Run_withoutLaw : List qm_I := [(0, .iload_n 1, 1, 1), (1, .tableswitch 66 0 3 #[31, 40, 49, 58], 31, 32), (32, .aload_n 0, 1, 33), (33, .iconst 2, 1, 34), (34, .iconst 1, 1, 35), (35, .invokevirtual 58, 3, 38), (38, .goto 34, 3, 41), (41, .aload_n 0, 1, 42), (42, .iconst 3, 1, 43), (43, .iconst 1, 1, 44), (44, .invokevirtual 58, 3, 47), (47, .goto 25, 3, 50), (50, .aload_n 0, 1, 51), (51, .iconst 4, 1, 52), (52, .iconst 0, 1, 53), (53, .invokevirtual 58, 3, 56), (56, .goto 16, 3, 59), (59, .aload_n 0, 1, 60), (60, .iconst 4, 1, 61), (61, .invokevirtual 61, 3, 64), (64, .goto 8, 3, 67), (67, .aload_n 0, 1, 68), (68, .iconst 5, 1, 69), (69, .invokevirtual 61, 3, 72), (72, .return_, 1, 73)]
theorem jd_Run_withoutLaw : qm_D prog_6_method_19_code jl_Run_withoutLaw := qm_D_of (by decide +kernel)
noncomputable def jf_Run_withoutLaw (this : Nat) (p1 : Int32) : qm_M Unit :=
  if p1 = 0 then
    mB (jf_Run_put this 2 1) fun _ =>
    mP ()
  else
  if p1 = 1 then
    mB (jf_Run_put this 3 1) fun _ =>
    mP ()
  else
  if p1 = 2 then
    mB (jf_Run_put this 4 0) fun _ =>
    mP ()
  else
  if p1 = 3 then
    mB (jf_Run_clearCells this 4) fun _ =>
    mP ()
  else
  mB (jf_Run_clearCells this 5) fun _ =>
  mP ()
set_option maxRecDepth 20000 in
set_option maxHeartbeats 4000000 in
theorem jb_Run_withoutLaw {X : qm_X} (hX : qm_ok X qr_Run prog_6_method_19_code 2 2 45 jl_Run_withoutLaw) {σ0 : qm_Mem} (hR : qm_RV X σ0) (this : Nat) (p1 : Int32) (hthis : (qm_kd this).1 = 14) : qm_B X (jf_Run_withoutLaw this p1) 0 [some (.ref (qx_ad X this)), some (.int p1)] [] (fun _ σ1 => σ1 = σ0) := by
  unfold jf_Run_withoutLaw
  refine qb_iload_n hX 0 rfl rfl ?_
  refine qb_swc 0 ?_ (fun h0 => ?_)
  ·
    refine qb_tin hX 1 32 rfl (by decide) (by decide) rfl (by decide) ?_
    refine qb_aload_n hX 2 rfl rfl ?_
    refine qb_iconst hX 3 2 rfl (by decide) ?_
    refine qb_iconst hX 4 1 rfl (by decide) ?_
    refine qb_callV hX 5 rfl cv_Run_58 (jm_Run_put (qk_GI hX) this 2 1 hthis ) (ci := 4) hthis ⟨rfl, rfl, rfl, by decide, by decide⟩ rfl (by exact Nat.le_of_ble_eq_true rfl) ?_
    refine qb_goto hX 6 (tgt := 72) rfl (by decide) ?_
    exact qb_vret hX 24 rfl hR (fun _ h => h)
  refine qb_swc 1 ?_ (fun h1 => ?_)
  ·
    refine qb_tin hX 1 41 rfl (by decide) (by decide) rfl (by decide) ?_
    refine qb_aload_n hX 7 rfl rfl ?_
    refine qb_iconst hX 8 3 rfl (by decide) ?_
    refine qb_iconst hX 9 1 rfl (by decide) ?_
    refine qb_callV hX 10 rfl cv_Run_58 (jm_Run_put (qk_GI hX) this 3 1 hthis ) (ci := 4) hthis ⟨rfl, rfl, rfl, by decide, by decide⟩ rfl (by exact Nat.le_of_ble_eq_true rfl) ?_
    refine qb_goto hX 11 (tgt := 72) rfl (by decide) ?_
    exact qb_vret hX 24 rfl hR (fun _ h => h)
  refine qb_swc 2 ?_ (fun h2 => ?_)
  ·
    refine qb_tin hX 1 50 rfl (by decide) (by decide) rfl (by decide) ?_
    refine qb_aload_n hX 12 rfl rfl ?_
    refine qb_iconst hX 13 4 rfl (by decide) ?_
    refine qb_iconst hX 14 0 rfl (by decide) ?_
    refine qb_callV hX 15 rfl cv_Run_58 (jm_Run_put (qk_GI hX) this 4 0 hthis ) (ci := 4) hthis ⟨rfl, rfl, rfl, by decide, by decide⟩ rfl (by exact Nat.le_of_ble_eq_true rfl) ?_
    refine qb_goto hX 16 (tgt := 72) rfl (by decide) ?_
    exact qb_vret hX 24 rfl hR (fun _ h => h)
  refine qb_swc 3 ?_ (fun h3 => ?_)
  ·
    refine qb_tin hX 1 59 rfl (by decide) (by decide) rfl (by decide) ?_
    refine qb_aload_n hX 17 rfl rfl ?_
    refine qb_iconst hX 18 4 rfl (by decide) ?_
    refine qb_callV hX 19 rfl cv_Run_61 (jm_Run_clearCells (qk_GI hX) this 4 hthis ) (ci := 4) hthis ⟨rfl, rfl, rfl, by decide, by decide⟩ rfl (by exact Nat.le_of_ble_eq_true rfl) ?_
    refine qb_goto hX 20 (tgt := 72) rfl (by decide) ?_
    exact qb_vret hX 24 rfl hR (fun _ h => h)
  refine qb_tout hX 1 67 rfl (by have g0 := lv_neT (a := 0) h0 (by decide); have g1 := lv_neT (a := 1) h1 (by decide); have g2 := lv_neT (a := 2) h2 (by decide); have g3 := lv_neT (a := 3) h3 (by decide); omega) (by decide) ?_
  refine qb_aload_n hX 21 rfl rfl ?_
  refine qb_iconst hX 22 5 rfl (by decide) ?_
  refine qb_callV hX 23 rfl cv_Run_61 (jm_Run_clearCells (qk_GI hX) this 5 hthis ) (ci := 4) hthis ⟨rfl, rfl, rfl, by decide, by decide⟩ rfl (by exact Nat.le_of_ble_eq_true rfl) ?_
  exact qb_vret hX 24 rfl hR (fun _ h => h)
theorem jm_Run_withoutLaw {l : Launch} {G : qm_G} (hG : qm_GI G) (this : Nat) (p1 : Int32) (hthis : (qm_kd this).1 = 14) : qm_MV l G jy_Run_withoutLaw prog_6_method_19_code 2 2 45 [.ref (G.1 this), .int p1] (jf_Run_withoutLaw this p1) :=
  qm_metV (by decide +kernel) jd_Run_withoutLaw (fun v hv => by simp only [List.mem_cons, List.not_mem_nil, or_false] at hv; rcases hv with rfl | rfl <;> rfl) (by exact Nat.le_of_ble_eq_true rfl) hG (fun X hl hg hX σ0 hR => by subst hl; subst hg; exact jb_Run_withoutLaw hX hR this p1 hthis)
def jl_Tape_append : List qm_I := [(0, .bipush 24, 2, 2), (2, .istore_n 2, 1, 3), (3, .iload_n 2, 1, 4), (4, .ifCond .lt 54, 3, 7), (7, .aload_n 0, 1, 8), (8, .getfield 15, 3, 11), (11, .ifCond .lt 41, 3, 14), (14, .aload_n 0, 1, 15), (15, .getfield 15, 3, 18), (18, .aload_n 0, 1, 19), (19, .getfield 9, 3, 22), (22, .arraylength, 1, 23), (23, .if_icmp .ge 29, 3, 26), (26, .aload_n 0, 1, 27), (27, .getfield 9, 3, 30), (30, .aload_n 0, 1, 31), (31, .getfield 15, 3, 34), (34, .iload_n 1, 1, 35), (35, .iload_n 2, 1, 36), (36, .ishr, 1, 37), (37, .sipush 255, 3, 40), (40, .iand, 1, 41), (41, .iastore, 1, 42), (42, .aload_n 0, 1, 43), (43, .dup, 1, 44), (44, .getfield 15, 3, 47), (47, .iconst 1, 1, 48), (48, .iadd, 1, 49), (49, .putfield 15, 3, 52), (52, .iinc 2 (-8), 3, 55), (55, .goto (-52), 3, 58), (58, .return_, 1, 59)]
theorem jd_Tape_append : qm_D prog_7_method_2_code jl_Tape_append := qm_D_of (by decide +kernel)
noncomputable def jf_Tape_append (this : Nat) (p1 : Int32) : qm_M Unit :=
  mB (α := Unit) (
    mW (S := Int32) (α := Unit) (fun s2 =>
      if s2 < 0 then
        mP (Sum.inr ())
      else
        mB (mGt this 1) fun x3 =>
        mB (α := Unit) (
          if x3 < 0 then
            mP ()
          else
            mB (mGt this 1) fun x5 =>
            if (Int32.ofNat (qm_kd (qm_rf this 0)).2) ≤ x5 then
              mP ()
            else
              mB (mGt this 1) fun x6 =>
              mB (mSt (qm_rf this 0) x6 ((p1 >>> (s2 &&& 31)) &&& 255)) fun _ =>
              mB (mGt this 1) fun x7 =>
              mB (mPt this 1 (x7 + 1)) fun _ =>
              mP ()) fun s4 =>
        mB (mP (s2 + (-8))) fun x8 =>
        mP (Sum.inl x8)) 24) fun s1 =>
  mP ()
set_option maxRecDepth 20000 in
set_option maxHeartbeats 4000000 in
theorem jb_Tape_append {X : qm_X} (hX : qm_ok X qr_Tape prog_7_method_2_code 3 0 0 jl_Tape_append) {σ0 : qm_Mem} (hR : qm_RV X σ0) (this : Nat) (p1 : Int32) (hthis : (qm_kd this).1 = 15) : qm_B X (jf_Tape_append this p1) 0 [some (.ref (qx_ad X this)), some (.int p1), none] [] (fun _ σ1 => σ1 = σ0) := by
  unfold jf_Tape_append
  refine qb_bipush hX 0 24 rfl (by decide) ?_
  refine qb_istore_n hX 1 ([some (.ref (qx_ad X this)), some (.int p1), some (.int 24)]) rfl (by decide) rfl ?_
  refine qb_join 58 (fun s1 => [none, none, none]) (fun s1 => []) ?_ ?_
  ·
    refine qb_loopw (24) (fun s2 => [some (.ref (qx_ad X this)), some (.int p1), some (.int s2)]) (qw_s (qw_s (qw_s (qw_0)))) (fun s2 => ?_)
    refine qb_iload_n hX 2 rfl rfl ?_
    refine qb_iflt hX 3 58 rfl (by decide) ?_ ?_
    ·
      exact qb_exit (fun σ h => qj_wk (ρ' := [none, none, none]) (qw_n (qw_n (qw_n (qw_0)))) h)
    ·
      refine qb_aload_n hX 4 rfl rfl ?_
      refine qb_get hX 5 rfl fl_Tape_15 hthis rfl (fun x3 => ?_)
      refine qb_join 52 (fun s4 => [some (.ref (qx_ad X this)), some (.int p1), some (.int s2)]) (fun s4 => []) ?_ ?_
      ·
        refine qb_iflt hX 6 52 rfl (by decide) ?_ ?_
        ·
          exact qb_exit (fun σ h => qj_wk (ρ' := [some (.ref (qx_ad X this)), some (.int p1), some (.int s2)]) (qw_s (qw_s (qw_s (qw_0)))) h)
        ·
          refine qb_aload_n hX 7 rfl rfl ?_
          refine qb_get hX 8 rfl fl_Tape_15 hthis rfl (fun x5 => ?_)
          refine qb_aload_n hX 9 rfl rfl ?_
          refine qb_getR hX 10 rfl fl_Tape_9 hthis rfl ?_
          refine qb_alen hX 11 (Int32.ofNat (qm_kd (qm_rf this 0)).2) rfl (Or.inl (kf_Tape_0 hthis)) rfl ?_
          refine qb_icge hX 12 52 rfl (by decide) ?_ ?_
          ·
            exact qb_exit (fun σ h => qj_wk (ρ' := [some (.ref (qx_ad X this)), some (.int p1), some (.int s2)]) (qw_s (qw_s (qw_s (qw_0)))) h)
          ·
            refine qb_aload_n hX 13 rfl rfl ?_
            refine qb_getR hX 14 rfl fl_Tape_9 hthis rfl ?_
            refine qb_aload_n hX 15 rfl rfl ?_
            refine qb_get hX 16 rfl fl_Tape_15 hthis rfl (fun x6 => ?_)
            refine qb_iload_n hX 17 rfl rfl ?_
            refine qb_iload_n hX 18 rfl rfl ?_
            refine qb_ishr hX 19 rfl ?_
            refine qb_sipush hX 20 255 rfl (by decide) ?_
            refine qb_iand hX 21 rfl ?_
            refine qb_iast hX 22 rfl (kf_Tape_0 hthis) ?_
            refine qb_aload_n hX 23 rfl rfl ?_
            refine qb_dup hX 24 rfl rfl ?_
            refine qb_get hX 25 rfl fl_Tape_15 hthis rfl (fun x7 => ?_)
            refine qb_iconst hX 26 1 rfl (by decide) ?_
            refine qb_iadd hX 27 rfl ?_
            refine qb_put hX 28 rfl fp_Tape_15 hthis ?_
            exact qb_exit (fun σ h => qj_wk (ρ' := [some (.ref (qx_ad X this)), some (.int p1), some (.int s2)]) (qw_s (qw_s (qw_s (qw_0)))) h)
      · intro s4
        refine qb_iinc hX 29 (-8) (fun x8 => [some (.ref (qx_ad X this)), some (.int p1), some (.int x8)]) rfl (by decide) (by decide) rfl (fun _ => rfl) (fun x8 => ?_)
        exact qb_exit (fun σ h => qj_goto hX 30 rfl (by decide) (qj_wk (ρ' := [some (.ref (qx_ad X this)), some (.int p1), some (.int x8)]) (qw_s (qw_s (qw_s (qw_0)))) h))
  · intro s1
    exact qb_vret hX 31 rfl hR (fun _ h => h)
theorem jm_Tape_append {l : Launch} {G : qm_G} (hG : qm_GI G) (this : Nat) (p1 : Int32) (hthis : (qm_kd this).1 = 15) : qm_MV l G jy_Tape_append prog_7_method_2_code 3 0 0 [.ref (G.1 this), .int p1] (jf_Tape_append this p1) :=
  qm_metV (by decide +kernel) jd_Tape_append (fun v hv => by simp only [List.mem_cons, List.not_mem_nil, or_false] at hv; rcases hv with rfl | rfl <;> rfl) (by exact Nat.le_of_ble_eq_true rfl) hG (fun X hl hg hX σ0 hR => by subst hl; subst hg; exact jb_Tape_append hX hR this p1 hthis)
def jl_Teller_signOf : List qm_I := [(0, .iload_n 0, 1, 1), (1, .bipush 97, 2, 3), (3, .if_icmp .lt 11, 3, 6), (6, .iload_n 0, 1, 7), (7, .bipush 122, 2, 9), (9, .if_icmp .gt 5, 3, 12), (12, .iconst 0, 1, 13), (13, .ireturn, 1, 14), (14, .iload_n 0, 1, 15), (15, .bipush 48, 2, 17), (17, .if_icmp .lt 11, 3, 20), (20, .iload_n 0, 1, 21), (21, .bipush 57, 2, 23), (23, .if_icmp .gt 5, 3, 26), (26, .iconst 1, 1, 27), (27, .ireturn, 1, 28), (28, .iload_n 0, 1, 29), (29, .bipush 59, 2, 31), (31, .if_icmp .ne 7, 3, 34), (34, .iconst 2, 1, 35), (35, .goto 4, 3, 38), (38, .iconst 3, 1, 39), (39, .ireturn, 1, 40)]
theorem jd_Teller_signOf : qm_D prog_8_method_4_code jl_Teller_signOf := qm_D_of (by decide +kernel)
noncomputable def jf_Teller_signOf (p1 : Int32) : qm_M Int32 :=
  mB (α := (Unit ⊕ Int32)) (
    if p1 < 97 then
      mP (Sum.inl ())
    else
      if 122 < p1 then
        mP (Sum.inl ())
      else
        mP (Sum.inr 0)) (Sum.elim (fun s1 =>
    mB (α := (Unit ⊕ Int32)) (
      if p1 < 48 then
        mP (Sum.inl ())
      else
        if 57 < p1 then
          mP (Sum.inl ())
        else
          mP (Sum.inr 1)) (Sum.elim (fun s2 =>
      if ¬ p1 = 59 then
        mP 3
      else
        mP 2) mP)) mP)
set_option maxRecDepth 20000 in
set_option maxHeartbeats 4000000 in
theorem jb_Teller_signOf {X : qm_X} (hX : qm_ok X qr_Teller prog_8_method_4_code 1 0 0 jl_Teller_signOf) {r0 : Int32} {σ0 : qm_Mem} (hR : qm_RI X r0 σ0 .int) (p1 : Int32)  : qm_B X (jf_Teller_signOf p1) 0 [some (.int p1)] [] (fun r σ1 => r = r0 ∧ σ1 = σ0) := by
  unfold jf_Teller_signOf
  refine qb_iload_n hX 0 rfl rfl ?_
  refine qb_bipush hX 1 97 rfl (by decide) ?_
  refine qb_join2 14 (fun s1 => [some (.int p1)]) (fun s1 => []) ?_ ?_
  ·
    refine qb_iclt hX 2 14 rfl (by decide) ?_ ?_
    ·
      exact qb_exit (fun σ h => qj_wk (ρ' := [some (.int p1)]) (qw_s (qw_0)) h)
    ·
      refine qb_iload_n hX 3 rfl rfl ?_
      refine qb_bipush hX 4 122 rfl (by decide) ?_
      refine qb_icgt hX 5 14 rfl (by decide) ?_ ?_
      ·
        exact qb_exit (fun σ h => qj_wk (ρ' := [some (.int p1)]) (qw_s (qw_0)) h)
      ·
        refine qb_iconst hX 6 0 rfl (by decide) ?_
        exact qb_iret hX 7 rfl hR (fun _ h => h)
  · intro s1
    refine qb_iload_n hX 8 rfl rfl ?_
    refine qb_bipush hX 9 48 rfl (by decide) ?_
    refine qb_join2 28 (fun s2 => [some (.int p1)]) (fun s2 => []) ?_ ?_
    ·
      refine qb_iclt hX 10 28 rfl (by decide) ?_ ?_
      ·
        exact qb_exit (fun σ h => qj_wk (ρ' := [some (.int p1)]) (qw_s (qw_0)) h)
      ·
        refine qb_iload_n hX 11 rfl rfl ?_
        refine qb_bipush hX 12 57 rfl (by decide) ?_
        refine qb_icgt hX 13 28 rfl (by decide) ?_ ?_
        ·
          exact qb_exit (fun σ h => qj_wk (ρ' := [some (.int p1)]) (qw_s (qw_0)) h)
        ·
          refine qb_iconst hX 14 1 rfl (by decide) ?_
          exact qb_iret hX 15 rfl hR (fun _ h => h)
    · intro s2
      refine qb_iload_n hX 16 rfl rfl ?_
      refine qb_bipush hX 17 59 rfl (by decide) ?_
      refine qb_icne hX 18 38 rfl (by decide) ?_ ?_
      ·
        refine qb_iconst hX 21 3 rfl (by decide) ?_
        exact qb_iret hX 22 rfl hR (fun _ h => h)
      ·
        refine qb_iconst hX 19 2 rfl (by decide) ?_
        refine qb_goto hX 20 (tgt := 39) rfl (by decide) ?_
        exact qb_iret hX 22 rfl hR (fun _ h => h)
theorem jm_Teller_signOf {l : Launch} {G : qm_G} (hG : qm_GI G) (p1 : Int32)  : qm_MI l G jy_Teller_signOf prog_8_method_4_code 1 (some .int) 0 0 [.int p1] (jf_Teller_signOf p1) :=
  qm_metI (by decide +kernel) jd_Teller_signOf (fun v hv => by simp only [List.mem_cons, List.not_mem_nil, or_false] at hv; rcases hv with rfl <;> rfl) (by exact Nat.le_of_ble_eq_true rfl) hG rfl (fun X hl hg hX r0 σ0 hR => by subst hl; subst hg; exact jb_Teller_signOf hX hR p1 )
def jl_Teller_numberOf : List qm_I := [(0, .iconst 0, 1, 1), (1, .istore_n 3, 1, 2), (2, .iload_n 1, 1, 3), (3, .istore 4, 2, 5), (5, .iload 4, 2, 7), (7, .iload_n 2, 1, 8), (8, .if_icmp .ge 35, 3, 11), (11, .ldc 88, 2, 13), (13, .iload_n 3, 1, 14), (14, .bipush 10, 2, 16), (16, .imul, 1, 17), (17, .aload_n 0, 1, 18), (18, .getfield 11, 3, 21), (21, .getfield 70, 3, 24), (24, .iload 4, 2, 26), (26, .invokestatic 73, 3, 29), (29, .iadd, 1, 30), (30, .bipush 48, 2, 32), (32, .isub, 1, 33), (33, .invokestatic 89, 3, 36), (36, .istore_n 3, 1, 37), (37, .iinc 4 1, 3, 40), (40, .goto (-35), 3, 43), (43, .iload_n 3, 1, 44), (44, .ireturn, 1, 45)]
theorem jd_Teller_numberOf : qm_D prog_8_method_5_code jl_Teller_numberOf := qm_D_of (by decide +kernel)
noncomputable def jf_Teller_numberOf (this : Nat) (p1 : Int32) (p2 : Int32) : qm_M Int32 :=
  mB (α := Int32) (
    mW (S := Int32 × Int32) (α := Int32) (fun s2 =>
      if p2 ≤ s2.2 then
        mP (Sum.inr s2.1)
      else
        mB (jf_Top_at (qm_rf (qm_rf this 0) 0) s2.2) fun x3 =>
        mB (jf_Math_min 100000 (((s2.1 * 10) + x3) - 48)) fun x4 =>
        mB (mP (s2.2 + 1)) fun x5 =>
        mP (Sum.inl (x4, x5))) (0, p1)) fun s1 =>
  mP s1
set_option maxRecDepth 20000 in
set_option maxHeartbeats 4000000 in
theorem jb_Teller_numberOf {X : qm_X} (hX : qm_ok X qr_Teller prog_8_method_5_code 5 1 21 jl_Teller_numberOf) {r0 : Int32} {σ0 : qm_Mem} (hR : qm_RI X r0 σ0 .int) (this : Nat) (p1 : Int32) (p2 : Int32) (hthis : (qm_kd this).1 = 16) : qm_B X (jf_Teller_numberOf this p1 p2) 0 [some (.ref (qx_ad X this)), some (.int p1), some (.int p2), none, none] [] (fun r σ1 => r = r0 ∧ σ1 = σ0) := by
  unfold jf_Teller_numberOf
  refine qb_iconst hX 0 0 rfl (by decide) ?_
  refine qb_istore_n hX 1 ([some (.ref (qx_ad X this)), some (.int p1), some (.int p2), some (.int 0), none]) rfl (by decide) rfl ?_
  refine qb_iload_n hX 2 rfl rfl ?_
  refine qb_istore hX 3 ([some (.ref (qx_ad X this)), some (.int p1), some (.int p2), some (.int 0), some (.int p1)]) rfl (by decide) rfl ?_
  refine qb_join 43 (fun s1 => [none, none, none, some (.int s1), none]) (fun s1 => []) ?_ ?_
  ·
    refine qb_loopw ((0, p1)) (fun s2 => [some (.ref (qx_ad X this)), none, some (.int p2), some (.int s2.1), some (.int s2.2)]) (qw_s (qw_n (qw_s (qw_s (qw_s (qw_0)))))) (fun s2 => ?_)
    refine qb_iload hX 4 rfl rfl ?_
    refine qb_iload_n hX 5 rfl rfl ?_
    refine qb_icge hX 6 43 rfl (by decide) ?_ ?_
    ·
      exact qb_exit (fun σ h => qj_wk (ρ' := [none, none, none, some (.int s2.1), none]) (qw_n (qw_n (qw_n (qw_s (qw_n (qw_0)))))) h)
    ·
      refine qb_ldc hX 7 100000 rfl kc_Teller_88 ?_
      refine qb_iload_n hX 8 rfl rfl ?_
      refine qb_bipush hX 9 10 rfl (by decide) ?_
      refine qb_imul hX 10 rfl ?_
      refine qb_aload_n hX 11 rfl rfl ?_
      refine qb_getR hX 12 rfl fl_Teller_11 hthis rfl ?_
      refine qb_getR hX 13 rfl fl_Teller_70 (kf_Teller_0 hthis) rfl ?_
      refine qb_iload hX 14 rfl rfl ?_
      refine qb_calNI hX 15 rfl cv_Teller_73 (jm_Top_at (qk_GI hX) (qm_rf (qm_rf this 0) 0) s2.2 (kf_Tape_0 (kf_Teller_0 hthis))) ⟨rfl, by decide, by decide⟩ rfl (by exact Nat.le_of_ble_eq_true rfl) (fun x3 => ?_)
      refine qb_iadd hX 16 rfl ?_
      refine qb_bipush hX 17 48 rfl (by decide) ?_
      refine qb_isub hX 18 rfl ?_
      refine qb_mmin hX 19 rfl cv_Teller_89 (by decide) (by exact Nat.le_of_ble_eq_true rfl) (fun x4 => ?_)
      refine qb_istore_n hX 20 ([some (.ref (qx_ad X this)), none, some (.int p2), some (.int x4), some (.int s2.2)]) rfl (by decide) rfl ?_
      refine qb_iinc hX 21 1 (fun x5 => [some (.ref (qx_ad X this)), none, some (.int p2), some (.int x4), some (.int x5)]) rfl (by decide) (by decide) rfl (fun _ => rfl) (fun x5 => ?_)
      exact qb_exit (fun σ h => qj_goto hX 22 rfl (by decide) (qj_wk (ρ' := [some (.ref (qx_ad X this)), none, some (.int p2), some (.int x4), some (.int x5)]) (qw_s (qw_n (qw_s (qw_s (qw_s (qw_0)))))) h))
  · intro s1
    refine qb_iload_n hX 23 rfl rfl ?_
    exact qb_iret hX 24 rfl hR (fun _ h => h)
theorem jm_Teller_numberOf {l : Launch} {G : qm_G} (hG : qm_GI G) (this : Nat) (p1 : Int32) (p2 : Int32) (hthis : (qm_kd this).1 = 16) : qm_MI l G jy_Teller_numberOf prog_8_method_5_code 5 (some .int) 1 21 [.ref (G.1 this), .int p1, .int p2] (jf_Teller_numberOf this p1 p2) :=
  qm_metI (by decide +kernel) jd_Teller_numberOf (fun v hv => by simp only [List.mem_cons, List.not_mem_nil, or_false] at hv; rcases hv with rfl | rfl | rfl <;> rfl) (by exact Nat.le_of_ble_eq_true rfl) hG rfl (fun X hl hg hX r0 σ0 hR => by subst hl; subst hg; exact jb_Teller_numberOf hX hR this p1 p2 hthis)
def jl_Teller_sign : List qm_I := [(0, .aload_n 0, 1, 1), (1, .getfield 38, 3, 4), (4, .ifCond .lt 25, 3, 7), (7, .aload_n 0, 1, 8), (8, .getfield 38, 3, 11), (11, .sipush 401, 3, 14), (14, .if_icmp .ge 15, 3, 17), (17, .aload_n 0, 1, 18), (18, .getfield 22, 3, 21), (21, .aload_n 0, 1, 22), (22, .getfield 38, 3, 25), (25, .iaload, 1, 26), (26, .goto 4, 3, 29), (29, .iconst 4, 1, 30), (30, .ireturn, 1, 31)]
theorem jd_Teller_sign : qm_D prog_8_method_18_code jl_Teller_sign := qm_D_of (by decide +kernel)
noncomputable def jf_Teller_sign (this : Nat) : qm_M Int32 :=
  mB (mGt this 5) fun x1 =>
  if x1 < 0 then
    mP 4
  else
    mB (mGt this 5) fun x2 =>
    if 401 ≤ x2 then
      mP 4
    else
      mB (mGt this 5) fun x3 =>
      mB (mLd (qm_rf this 2) x3) fun x4 =>
      mP x4
set_option maxRecDepth 20000 in
set_option maxHeartbeats 4000000 in
theorem jb_Teller_sign {X : qm_X} (hX : qm_ok X qr_Teller prog_8_method_18_code 1 0 0 jl_Teller_sign) {r0 : Int32} {σ0 : qm_Mem} (hR : qm_RI X r0 σ0 .int) (this : Nat) (hthis : (qm_kd this).1 = 16) : qm_B X (jf_Teller_sign this) 0 [some (.ref (qx_ad X this))] [] (fun r σ1 => r = r0 ∧ σ1 = σ0) := by
  unfold jf_Teller_sign
  refine qb_aload_n hX 0 rfl rfl ?_
  refine qb_get hX 1 rfl fl_Teller_38 hthis rfl (fun x1 => ?_)
  refine qb_iflt hX 2 29 rfl (by decide) ?_ ?_
  ·
    refine qb_iconst hX 13 4 rfl (by decide) ?_
    exact qb_iret hX 14 rfl hR (fun _ h => h)
  ·
    refine qb_aload_n hX 3 rfl rfl ?_
    refine qb_get hX 4 rfl fl_Teller_38 hthis rfl (fun x2 => ?_)
    refine qb_sipush hX 5 401 rfl (by decide) ?_
    refine qb_icge hX 6 29 rfl (by decide) ?_ ?_
    ·
      refine qb_iconst hX 13 4 rfl (by decide) ?_
      exact qb_iret hX 14 rfl hR (fun _ h => h)
    ·
      refine qb_aload_n hX 7 rfl rfl ?_
      refine qb_getR hX 8 rfl fl_Teller_22 hthis rfl ?_
      refine qb_aload_n hX 9 rfl rfl ?_
      refine qb_get hX 10 rfl fl_Teller_38 hthis rfl (fun x3 => ?_)
      refine qb_iald hX 11 rfl (kf_Teller_2 hthis) (fun x4 => ?_)
      refine qb_goto hX 12 (tgt := 30) rfl (by decide) ?_
      exact qb_iret hX 14 rfl hR (fun _ h => h)
theorem jm_Teller_sign {l : Launch} {G : qm_G} (hG : qm_GI G) (this : Nat) (hthis : (qm_kd this).1 = 16) : qm_MI l G jy_Teller_sign prog_8_method_18_code 1 (some .int) 0 0 [.ref (G.1 this)] (jf_Teller_sign this) :=
  qm_metI (by decide +kernel) jd_Teller_sign (fun v hv => by simp only [List.mem_cons, List.not_mem_nil, or_false] at hv; rcases hv with rfl <;> rfl) (by exact Nat.le_of_ble_eq_true rfl) hG rfl (fun X hl hg hX r0 σ0 hR => by subst hl; subst hg; exact jb_Teller_sign hX hR this hthis)
def jl_Teller_place : List qm_I := [(0, .aload_n 0, 1, 1), (1, .getfield 38, 3, 4), (4, .ifCond .lt 25, 3, 7), (7, .aload_n 0, 1, 8), (8, .getfield 38, 3, 11), (11, .sipush 401, 3, 14), (14, .if_icmp .ge 15, 3, 17), (17, .aload_n 0, 1, 18), (18, .getfield 26, 3, 21), (21, .aload_n 0, 1, 22), (22, .getfield 38, 3, 25), (25, .iaload, 1, 26), (26, .goto 10, 3, 29), (29, .aload_n 0, 1, 30), (30, .getfield 11, 3, 33), (33, .getfield 65, 3, 36), (36, .ireturn, 1, 37)]
theorem jd_Teller_place : qm_D prog_8_method_19_code jl_Teller_place := qm_D_of (by decide +kernel)
noncomputable def jf_Teller_place (this : Nat) : qm_M Int32 :=
  mB (mGt this 5) fun x1 =>
  if x1 < 0 then
    mB (mGt (qm_rf this 0) 1) fun x2 =>
    mP x2
  else
    mB (mGt this 5) fun x3 =>
    if 401 ≤ x3 then
      mB (mGt (qm_rf this 0) 1) fun x4 =>
      mP x4
    else
      mB (mGt this 5) fun x5 =>
      mB (mLd (qm_rf this 3) x5) fun x6 =>
      mP x6
set_option maxRecDepth 20000 in
set_option maxHeartbeats 4000000 in
theorem jb_Teller_place {X : qm_X} (hX : qm_ok X qr_Teller prog_8_method_19_code 1 0 0 jl_Teller_place) {r0 : Int32} {σ0 : qm_Mem} (hR : qm_RI X r0 σ0 .int) (this : Nat) (hthis : (qm_kd this).1 = 16) : qm_B X (jf_Teller_place this) 0 [some (.ref (qx_ad X this))] [] (fun r σ1 => r = r0 ∧ σ1 = σ0) := by
  unfold jf_Teller_place
  refine qb_aload_n hX 0 rfl rfl ?_
  refine qb_get hX 1 rfl fl_Teller_38 hthis rfl (fun x1 => ?_)
  refine qb_iflt hX 2 29 rfl (by decide) ?_ ?_
  ·
    refine qb_aload_n hX 13 rfl rfl ?_
    refine qb_getR hX 14 rfl fl_Teller_11 hthis rfl ?_
    refine qb_get hX 15 rfl fl_Teller_65 (kf_Teller_0 hthis) rfl (fun x2 => ?_)
    exact qb_iret hX 16 rfl hR (fun _ h => h)
  ·
    refine qb_aload_n hX 3 rfl rfl ?_
    refine qb_get hX 4 rfl fl_Teller_38 hthis rfl (fun x3 => ?_)
    refine qb_sipush hX 5 401 rfl (by decide) ?_
    refine qb_icge hX 6 29 rfl (by decide) ?_ ?_
    ·
      refine qb_aload_n hX 13 rfl rfl ?_
      refine qb_getR hX 14 rfl fl_Teller_11 hthis rfl ?_
      refine qb_get hX 15 rfl fl_Teller_65 (kf_Teller_0 hthis) rfl (fun x4 => ?_)
      exact qb_iret hX 16 rfl hR (fun _ h => h)
    ·
      refine qb_aload_n hX 7 rfl rfl ?_
      refine qb_getR hX 8 rfl fl_Teller_26 hthis rfl ?_
      refine qb_aload_n hX 9 rfl rfl ?_
      refine qb_get hX 10 rfl fl_Teller_38 hthis rfl (fun x5 => ?_)
      refine qb_iald hX 11 rfl (kf_Teller_3 hthis) (fun x6 => ?_)
      refine qb_goto hX 12 (tgt := 36) rfl (by decide) ?_
      exact qb_iret hX 16 rfl hR (fun _ h => h)
theorem jm_Teller_place {l : Launch} {G : qm_G} (hG : qm_GI G) (this : Nat) (hthis : (qm_kd this).1 = 16) : qm_MI l G jy_Teller_place prog_8_method_19_code 1 (some .int) 0 0 [.ref (G.1 this)] (jf_Teller_place this) :=
  qm_metI (by decide +kernel) jd_Teller_place (fun v hv => by simp only [List.mem_cons, List.not_mem_nil, or_false] at hv; rcases hv with rfl <;> rfl) (by exact Nat.le_of_ble_eq_true rfl) hG rfl (fun X hl hg hX r0 σ0 hR => by subst hl; subst hg; exact jb_Teller_place hX hR this hthis)
def jl_Teller_readWord : List qm_I := [(0, .aload_n 0, 1, 1), (1, .invokevirtual 48, 3, 4), (4, .ifCond .ne 13, 3, 7), (7, .aload_n 0, 1, 8), (8, .getfield 38, 3, 11), (11, .sipush 401, 3, 14), (14, .if_icmp .lt 5, 3, 17), (17, .iconst (-1), 1, 18), (18, .ireturn, 1, 19), (19, .aload_n 0, 1, 20), (20, .getfield 29, 3, 23), (23, .aload_n 0, 1, 24), (24, .getfield 38, 3, 27), (27, .invokestatic 73, 3, 30), (30, .istore_n 1, 1, 31), (31, .aload_n 0, 1, 32), (32, .dup, 1, 33), (33, .getfield 38, 3, 36), (36, .iconst 1, 1, 37), (37, .iadd, 1, 38), (38, .putfield 38, 3, 41), (41, .iload_n 1, 1, 42), (42, .ireturn, 1, 43)]
theorem jd_Teller_readWord : qm_D prog_8_method_15_code jl_Teller_readWord := qm_D_of (by decide +kernel)
noncomputable def jf_Teller_readWord (this : Nat) : qm_M Int32 :=
  mB (jf_Teller_sign this) fun x1 =>
  if ¬ x1 = 0 then
    mP (-1)
  else
    mB (mGt this 5) fun x2 =>
    if x2 < 401 then
      mB (mGt this 5) fun x3 =>
      mB (jf_Top_at (qm_rf this 4) x3) fun x4 =>
      mB (mGt this 5) fun x5 =>
      mB (mPt this 5 (x5 + 1)) fun _ =>
      mP x4
    else
      mP (-1)
set_option maxRecDepth 20000 in
set_option maxHeartbeats 4000000 in
theorem jb_Teller_readWord {X : qm_X} (hX : qm_ok X qr_Teller prog_8_method_15_code 2 1 21 jl_Teller_readWord) {r0 : Int32} {σ0 : qm_Mem} (hR : qm_RI X r0 σ0 .int) (this : Nat) (hthis : (qm_kd this).1 = 16) : qm_B X (jf_Teller_readWord this) 0 [some (.ref (qx_ad X this)), none] [] (fun r σ1 => r = r0 ∧ σ1 = σ0) := by
  unfold jf_Teller_readWord
  refine qb_aload_n hX 0 rfl rfl ?_
  refine qb_callI hX 1 rfl cv_Teller_48 (jm_Teller_sign (qk_GI hX) this  hthis ) (ci := 6) hthis ⟨rfl, rfl, rfl, by decide, by decide⟩ rfl (by exact Nat.le_of_ble_eq_true rfl) (fun x1 => ?_)
  refine qb_ifne hX 2 17 rfl (by decide) ?_ ?_
  ·
    refine qb_iconst hX 7 (-1) rfl (by decide) ?_
    exact qb_iret hX 8 rfl hR (fun _ h => h)
  ·
    refine qb_aload_n hX 3 rfl rfl ?_
    refine qb_get hX 4 rfl fl_Teller_38 hthis rfl (fun x2 => ?_)
    refine qb_sipush hX 5 401 rfl (by decide) ?_
    refine qb_iclt hX 6 19 rfl (by decide) ?_ ?_
    ·
      refine qb_aload_n hX 9 rfl rfl ?_
      refine qb_getR hX 10 rfl fl_Teller_29 hthis rfl ?_
      refine qb_aload_n hX 11 rfl rfl ?_
      refine qb_get hX 12 rfl fl_Teller_38 hthis rfl (fun x3 => ?_)
      refine qb_calNI hX 13 rfl cv_Teller_73 (jm_Top_at (qk_GI hX) (qm_rf this 4) x3 (kf_Teller_4 hthis)) ⟨rfl, by decide, by decide⟩ rfl (by exact Nat.le_of_ble_eq_true rfl) (fun x4 => ?_)
      refine qb_istore_n hX 14 ([some (.ref (qx_ad X this)), some (.int x4)]) rfl (by decide) rfl ?_
      refine qb_aload_n hX 15 rfl rfl ?_
      refine qb_dup hX 16 rfl rfl ?_
      refine qb_get hX 17 rfl fl_Teller_38 hthis rfl (fun x5 => ?_)
      refine qb_iconst hX 18 1 rfl (by decide) ?_
      refine qb_iadd hX 19 rfl ?_
      refine qb_put hX 20 rfl fp_Teller_38 hthis ?_
      refine qb_iload_n hX 21 rfl rfl ?_
      exact qb_iret hX 22 rfl hR (fun _ h => h)
    ·
      refine qb_iconst hX 7 (-1) rfl (by decide) ?_
      exact qb_iret hX 8 rfl hR (fun _ h => h)
theorem jm_Teller_readWord {l : Launch} {G : qm_G} (hG : qm_GI G) (this : Nat) (hthis : (qm_kd this).1 = 16) : qm_MI l G jy_Teller_readWord prog_8_method_15_code 2 (some .int) 1 21 [.ref (G.1 this)] (jf_Teller_readWord this) :=
  qm_metI (by decide +kernel) jd_Teller_readWord (fun v hv => by simp only [List.mem_cons, List.not_mem_nil, or_false] at hv; rcases hv with rfl <;> rfl) (by exact Nat.le_of_ble_eq_true rfl) hG rfl (fun X hl hg hX r0 σ0 hR => by subst hl; subst hg; exact jb_Teller_readWord hX hR this hthis)
def jl_Teller_wrong : List qm_I := [(0, .aload_n 0, 1, 1), (1, .getfield 42, 3, 4), (4, .iconst (-1), 1, 5), (5, .if_icmp .ne 13, 3, 8), (8, .aload_n 0, 1, 9), (9, .bipush 8, 2, 11), (11, .iload_n 1, 1, 12), (12, .imul, 1, 13), (13, .iload_n 2, 1, 14), (14, .iadd, 1, 15), (15, .putfield 42, 3, 18), (18, .return_, 1, 19)]
theorem jd_Teller_wrong : qm_D prog_8_method_17_code jl_Teller_wrong := qm_D_of (by decide +kernel)
noncomputable def jf_Teller_wrong (this : Nat) (p1 : Int32) (p2 : Int32) : qm_M Unit :=
  mB (mGt this 6) fun x1 =>
  if ¬ x1 = (-1) then
    mP ()
  else
    mB (mPt this 6 ((8 * p1) + p2)) fun _ =>
    mP ()
set_option maxRecDepth 20000 in
set_option maxHeartbeats 4000000 in
theorem jb_Teller_wrong {X : qm_X} (hX : qm_ok X qr_Teller prog_8_method_17_code 3 0 0 jl_Teller_wrong) {σ0 : qm_Mem} (hR : qm_RV X σ0) (this : Nat) (p1 : Int32) (p2 : Int32) (hthis : (qm_kd this).1 = 16) : qm_B X (jf_Teller_wrong this p1 p2) 0 [some (.ref (qx_ad X this)), some (.int p1), some (.int p2)] [] (fun _ σ1 => σ1 = σ0) := by
  unfold jf_Teller_wrong
  refine qb_aload_n hX 0 rfl rfl ?_
  refine qb_get hX 1 rfl fl_Teller_42 hthis rfl (fun x1 => ?_)
  refine qb_iconst hX 2 (-1) rfl (by decide) ?_
  refine qb_icne hX 3 18 rfl (by decide) ?_ ?_
  ·
    exact qb_vret hX 11 rfl hR (fun _ h => h)
  ·
    refine qb_aload_n hX 4 rfl rfl ?_
    refine qb_bipush hX 5 8 rfl (by decide) ?_
    refine qb_iload_n hX 6 rfl rfl ?_
    refine qb_imul hX 7 rfl ?_
    refine qb_iload_n hX 8 rfl rfl ?_
    refine qb_iadd hX 9 rfl ?_
    refine qb_put hX 10 rfl fp_Teller_42 hthis ?_
    exact qb_vret hX 11 rfl hR (fun _ h => h)
theorem jm_Teller_wrong {l : Launch} {G : qm_G} (hG : qm_GI G) (this : Nat) (p1 : Int32) (p2 : Int32) (hthis : (qm_kd this).1 = 16) : qm_MV l G jy_Teller_wrong prog_8_method_17_code 3 0 0 [.ref (G.1 this), .int p1, .int p2] (jf_Teller_wrong this p1 p2) :=
  qm_metV (by decide +kernel) jd_Teller_wrong (fun v hv => by simp only [List.mem_cons, List.not_mem_nil, or_false] at hv; rcases hv with rfl | rfl | rfl <;> rfl) (by exact Nat.le_of_ble_eq_true rfl) hG (fun X hl hg hX σ0 hR => by subst hl; subst hg; exact jb_Teller_wrong hX hR this p1 p2 hthis)
def jl_Teller_tellOnce : List qm_I := [(0, .aload_n 0, 1, 1), (1, .getfield 45, 3, 4), (4, .iload_n 1, 1, 5), (5, .ishr, 1, 6), (6, .iconst 1, 1, 7), (7, .iand, 1, 8), (8, .ifCond .eq 9, 3, 11), (11, .aload_n 0, 1, 12), (12, .iload_n 2, 1, 13), (13, .iconst 3, 1, 14), (14, .invokevirtual 58, 3, 17), (17, .aload_n 0, 1, 18), (18, .dup, 1, 19), (19, .getfield 45, 3, 22), (22, .iconst 1, 1, 23), (23, .iload_n 1, 1, 24), (24, .ishl, 1, 25), (25, .ior, 1, 26), (26, .putfield 45, 3, 29), (29, .return_, 1, 30)]
theorem jd_Teller_tellOnce : qm_D prog_8_method_14_code jl_Teller_tellOnce := qm_D_of (by decide +kernel)
noncomputable def jf_Teller_tellOnce (this : Nat) (p1 : Int32) (p2 : Int32) : qm_M Unit :=
  mB (mGt this 7) fun x1 =>
  mB (α := Unit) (
    if ((x1 >>> (p1 &&& 31)) &&& 1) = 0 then
      mP ()
    else
      mB (jf_Teller_wrong this p2 3) fun _ =>
      mP ()) fun s2 =>
  mB (mGt this 7) fun x3 =>
  mB (mPt this 7 (x3 ||| (1 <<< (p1 &&& 31)))) fun _ =>
  mP ()
set_option maxRecDepth 20000 in
set_option maxHeartbeats 4000000 in
theorem jb_Teller_tellOnce {X : qm_X} (hX : qm_ok X qr_Teller prog_8_method_14_code 3 1 22 jl_Teller_tellOnce) {σ0 : qm_Mem} (hR : qm_RV X σ0) (this : Nat) (p1 : Int32) (p2 : Int32) (hthis : (qm_kd this).1 = 16) : qm_B X (jf_Teller_tellOnce this p1 p2) 0 [some (.ref (qx_ad X this)), some (.int p1), some (.int p2)] [] (fun _ σ1 => σ1 = σ0) := by
  unfold jf_Teller_tellOnce
  refine qb_aload_n hX 0 rfl rfl ?_
  refine qb_get hX 1 rfl fl_Teller_45 hthis rfl (fun x1 => ?_)
  refine qb_iload_n hX 2 rfl rfl ?_
  refine qb_ishr hX 3 rfl ?_
  refine qb_iconst hX 4 1 rfl (by decide) ?_
  refine qb_iand hX 5 rfl ?_
  refine qb_join 17 (fun s2 => [some (.ref (qx_ad X this)), some (.int p1), none]) (fun s2 => []) ?_ ?_
  ·
    refine qb_ifeq hX 6 17 rfl (by decide) ?_ ?_
    ·
      exact qb_exit (fun σ h => qj_wk (ρ' := [some (.ref (qx_ad X this)), some (.int p1), none]) (qw_s (qw_s (qw_n (qw_0)))) h)
    ·
      refine qb_aload_n hX 7 rfl rfl ?_
      refine qb_iload_n hX 8 rfl rfl ?_
      refine qb_iconst hX 9 3 rfl (by decide) ?_
      refine qb_callV hX 10 rfl cv_Teller_58 (jm_Teller_wrong (qk_GI hX) this p2 3 hthis ) (ci := 6) hthis ⟨rfl, rfl, rfl, by decide, by decide⟩ rfl (by exact Nat.le_of_ble_eq_true rfl) ?_
      exact qb_exit (fun σ h => qj_wk (ρ' := [some (.ref (qx_ad X this)), some (.int p1), none]) (qw_s (qw_s (qw_n (qw_0)))) h)
  · intro s2
    refine qb_aload_n hX 11 rfl rfl ?_
    refine qb_dup hX 12 rfl rfl ?_
    refine qb_get hX 13 rfl fl_Teller_45 hthis rfl (fun x3 => ?_)
    refine qb_iconst hX 14 1 rfl (by decide) ?_
    refine qb_iload_n hX 15 rfl rfl ?_
    refine qb_ishl hX 16 rfl ?_
    refine qb_ior hX 17 rfl ?_
    refine qb_put hX 18 rfl fp_Teller_45 hthis ?_
    exact qb_vret hX 19 rfl hR (fun _ h => h)
theorem jm_Teller_tellOnce {l : Launch} {G : qm_G} (hG : qm_GI G) (this : Nat) (p1 : Int32) (p2 : Int32) (hthis : (qm_kd this).1 = 16) : qm_MV l G jy_Teller_tellOnce prog_8_method_14_code 3 1 22 [.ref (G.1 this), .int p1, .int p2] (jf_Teller_tellOnce this p1 p2) :=
  qm_metV (by decide +kernel) jd_Teller_tellOnce (fun v hv => by simp only [List.mem_cons, List.not_mem_nil, or_false] at hv; rcases hv with rfl | rfl | rfl <;> rfl) (by exact Nat.le_of_ble_eq_true rfl) hG (fun X hl hg hX σ0 hR => by subst hl; subst hg; exact jb_Teller_tellOnce hX hR this p1 p2 hthis)
def jl_Teller_readNumber : List qm_I := [(0, .aload_n 0, 1, 1), (1, .getfield 42, 3, 4), (4, .iconst (-1), 1, 5), (5, .if_icmp .eq 5, 3, 8), (8, .iconst 0, 1, 9), (9, .ireturn, 1, 10), (10, .aload_n 0, 1, 11), (11, .invokevirtual 48, 3, 14), (14, .iconst 1, 1, 15), (15, .if_icmp .eq 14, 3, 18), (18, .aload_n 0, 1, 19), (19, .aload_n 0, 1, 20), (20, .invokevirtual 55, 3, 23), (23, .iconst 1, 1, 24), (24, .invokevirtual 58, 3, 27), (27, .iconst 0, 1, 28), (28, .ireturn, 1, 29), (29, .aload_n 0, 1, 30), (30, .getfield 29, 3, 33), (33, .aload_n 0, 1, 34), (34, .getfield 38, 3, 37), (37, .invokestatic 73, 3, 40), (40, .istore_n 3, 1, 41), (41, .iload_n 3, 1, 42), (42, .iload_n 1, 1, 43), (43, .if_icmp .lt 8, 3, 46), (46, .iload_n 3, 1, 47), (47, .iload_n 2, 1, 48), (48, .if_icmp .le 14, 3, 51), (51, .aload_n 0, 1, 52), (52, .aload_n 0, 1, 53), (53, .invokevirtual 55, 3, 56), (56, .iconst 2, 1, 57), (57, .invokevirtual 58, 3, 60), (60, .iconst 0, 1, 61), (61, .ireturn, 1, 62), (62, .aload_n 0, 1, 63), (63, .dup, 1, 64), (64, .getfield 38, 3, 67), (67, .iconst 1, 1, 68), (68, .iadd, 1, 69), (69, .putfield 38, 3, 72), (72, .iload_n 3, 1, 73), (73, .ireturn, 1, 74)]
theorem jd_Teller_readNumber : qm_D prog_8_method_16_code jl_Teller_readNumber := qm_D_of (by decide +kernel)
noncomputable def jf_Teller_readNumber (this : Nat) (p1 : Int32) (p2 : Int32) : qm_M Int32 :=
  mB (mGt this 6) fun x1 =>
  if x1 = (-1) then
    mB (jf_Teller_sign this) fun x2 =>
    if x2 = 1 then
      mB (mGt this 5) fun x3 =>
      mB (jf_Top_at (qm_rf this 4) x3) fun x4 =>
      mB (α := (Unit ⊕ Int32)) (
        if x4 < p1 then
          mP (Sum.inl ())
        else
          if x4 ≤ p2 then
            mB (mGt this 5) fun x6 =>
            mB (mPt this 5 (x6 + 1)) fun _ =>
            mP (Sum.inr x4)
          else
            mP (Sum.inl ())) (Sum.elim (fun s5 =>
        mB (jf_Teller_place this) fun x7 =>
        mB (jf_Teller_wrong this x7 2) fun _ =>
        mP 0) mP)
    else
      mB (jf_Teller_place this) fun x8 =>
      mB (jf_Teller_wrong this x8 1) fun _ =>
      mP 0
  else
    mP 0
set_option maxRecDepth 20000 in
set_option maxHeartbeats 4000000 in
theorem jb_Teller_readNumber {X : qm_X} (hX : qm_ok X qr_Teller prog_8_method_16_code 4 1 22 jl_Teller_readNumber) {r0 : Int32} {σ0 : qm_Mem} (hR : qm_RI X r0 σ0 .int) (this : Nat) (p1 : Int32) (p2 : Int32) (hthis : (qm_kd this).1 = 16) : qm_B X (jf_Teller_readNumber this p1 p2) 0 [some (.ref (qx_ad X this)), some (.int p1), some (.int p2), none] [] (fun r σ1 => r = r0 ∧ σ1 = σ0) := by
  unfold jf_Teller_readNumber
  refine qb_aload_n hX 0 rfl rfl ?_
  refine qb_get hX 1 rfl fl_Teller_42 hthis rfl (fun x1 => ?_)
  refine qb_iconst hX 2 (-1) rfl (by decide) ?_
  refine qb_iceq hX 3 10 rfl (by decide) ?_ ?_
  ·
    refine qb_aload_n hX 6 rfl rfl ?_
    refine qb_callI hX 7 rfl cv_Teller_48 (jm_Teller_sign (qk_GI hX) this  hthis ) (ci := 6) hthis ⟨rfl, rfl, rfl, by decide, by decide⟩ rfl (by exact Nat.le_of_ble_eq_true rfl) (fun x2 => ?_)
    refine qb_iconst hX 8 1 rfl (by decide) ?_
    refine qb_iceq hX 9 29 rfl (by decide) ?_ ?_
    ·
      refine qb_aload_n hX 17 rfl rfl ?_
      refine qb_getR hX 18 rfl fl_Teller_29 hthis rfl ?_
      refine qb_aload_n hX 19 rfl rfl ?_
      refine qb_get hX 20 rfl fl_Teller_38 hthis rfl (fun x3 => ?_)
      refine qb_calNI hX 21 rfl cv_Teller_73 (jm_Top_at (qk_GI hX) (qm_rf this 4) x3 (kf_Teller_4 hthis)) ⟨rfl, by decide, by decide⟩ rfl (by exact Nat.le_of_ble_eq_true rfl) (fun x4 => ?_)
      refine qb_istore_n hX 22 ([some (.ref (qx_ad X this)), some (.int p1), some (.int p2), some (.int x4)]) rfl (by decide) rfl ?_
      refine qb_iload_n hX 23 rfl rfl ?_
      refine qb_iload_n hX 24 rfl rfl ?_
      refine qb_join2 51 (fun s5 => [some (.ref (qx_ad X this)), none, none, none]) (fun s5 => []) ?_ ?_
      ·
        refine qb_iclt hX 25 51 rfl (by decide) ?_ ?_
        ·
          exact qb_exit (fun σ h => qj_wk (ρ' := [some (.ref (qx_ad X this)), none, none, none]) (qw_s (qw_n (qw_n (qw_n (qw_0))))) h)
        ·
          refine qb_iload_n hX 26 rfl rfl ?_
          refine qb_iload_n hX 27 rfl rfl ?_
          refine qb_icle hX 28 62 rfl (by decide) ?_ ?_
          ·
            refine qb_aload_n hX 36 rfl rfl ?_
            refine qb_dup hX 37 rfl rfl ?_
            refine qb_get hX 38 rfl fl_Teller_38 hthis rfl (fun x6 => ?_)
            refine qb_iconst hX 39 1 rfl (by decide) ?_
            refine qb_iadd hX 40 rfl ?_
            refine qb_put hX 41 rfl fp_Teller_38 hthis ?_
            refine qb_iload_n hX 42 rfl rfl ?_
            exact qb_iret hX 43 rfl hR (fun _ h => h)
          ·
            exact qb_exit (fun σ h => qj_wk (ρ' := [some (.ref (qx_ad X this)), none, none, none]) (qw_s (qw_n (qw_n (qw_n (qw_0))))) h)
      · intro s5
        refine qb_aload_n hX 29 rfl rfl ?_
        refine qb_aload_n hX 30 rfl rfl ?_
        refine qb_callI hX 31 rfl cv_Teller_55 (jm_Teller_place (qk_GI hX) this  hthis ) (ci := 6) hthis ⟨rfl, rfl, rfl, by decide, by decide⟩ rfl (by exact Nat.le_of_ble_eq_true rfl) (fun x7 => ?_)
        refine qb_iconst hX 32 2 rfl (by decide) ?_
        refine qb_callV hX 33 rfl cv_Teller_58 (jm_Teller_wrong (qk_GI hX) this x7 2 hthis ) (ci := 6) hthis ⟨rfl, rfl, rfl, by decide, by decide⟩ rfl (by exact Nat.le_of_ble_eq_true rfl) ?_
        refine qb_iconst hX 34 0 rfl (by decide) ?_
        exact qb_iret hX 35 rfl hR (fun _ h => h)
    ·
      refine qb_aload_n hX 10 rfl rfl ?_
      refine qb_aload_n hX 11 rfl rfl ?_
      refine qb_callI hX 12 rfl cv_Teller_55 (jm_Teller_place (qk_GI hX) this  hthis ) (ci := 6) hthis ⟨rfl, rfl, rfl, by decide, by decide⟩ rfl (by exact Nat.le_of_ble_eq_true rfl) (fun x8 => ?_)
      refine qb_iconst hX 13 1 rfl (by decide) ?_
      refine qb_callV hX 14 rfl cv_Teller_58 (jm_Teller_wrong (qk_GI hX) this x8 1 hthis ) (ci := 6) hthis ⟨rfl, rfl, rfl, by decide, by decide⟩ rfl (by exact Nat.le_of_ble_eq_true rfl) ?_
      refine qb_iconst hX 15 0 rfl (by decide) ?_
      exact qb_iret hX 16 rfl hR (fun _ h => h)
  ·
    refine qb_iconst hX 4 0 rfl (by decide) ?_
    exact qb_iret hX 5 rfl hR (fun _ h => h)
theorem jm_Teller_readNumber {l : Launch} {G : qm_G} (hG : qm_GI G) (this : Nat) (p1 : Int32) (p2 : Int32) (hthis : (qm_kd this).1 = 16) : qm_MI l G jy_Teller_readNumber prog_8_method_16_code 4 (some .int) 1 22 [.ref (G.1 this), .int p1, .int p2] (jf_Teller_readNumber this p1 p2) :=
  qm_metI (by decide +kernel) jd_Teller_readNumber (fun v hv => by simp only [List.mem_cons, List.not_mem_nil, or_false] at hv; rcases hv with rfl | rfl | rfl <;> rfl) (by exact Nat.le_of_ble_eq_true rfl) hG rfl (fun X hl hg hX r0 σ0 hR => by subst hl; subst hg; exact jb_Teller_readNumber hX hR this p1 p2 hthis)
def jl_Teller_readSetting : List qm_I := [(0, .aload_n 0, 1, 1), (1, .iload_n 1, 1, 2), (2, .iload_n 2, 1, 3), (3, .invokevirtual 117, 3, 6), (6, .aload_n 0, 1, 7), (7, .getstatic 120, 3, 10), (10, .iload_n 1, 1, 11), (11, .invokestatic 73, 3, 14), (14, .getstatic 123, 3, 17), (17, .iload_n 1, 1, 18), (18, .invokestatic 73, 3, 21), (21, .invokevirtual 126, 3, 24), (24, .istore_n 3, 1, 25), (25, .aload_n 0, 1, 26), (26, .getfield 42, 3, 29), (29, .iconst (-1), 1, 30), (30, .if_icmp .ne 12, 3, 33), (33, .aload_n 0, 1, 34), (34, .getfield 18, 3, 37), (37, .iload_n 1, 1, 38), (38, .iload_n 3, 1, 39), (39, .invokevirtual 129, 3, 42), (42, .return_, 1, 43)]
theorem jd_Teller_readSetting : qm_D prog_8_method_9_code jl_Teller_readSetting := qm_D_of (by decide +kernel)
noncomputable def jf_Teller_readSetting (this : Nat) (p1 : Int32) (p2 : Int32) : qm_M Unit :=
  mB (jf_Teller_tellOnce this p1 p2) fun _ =>
  mB (jf_Top_at 406 p1) fun x1 =>
  mB (jf_Top_at 407 p1) fun x2 =>
  mB (jf_Teller_readNumber this x1 x2) fun x3 =>
  mB (mGt this 6) fun x4 =>
  if ¬ x4 = (-1) then
    mP ()
  else
    mB (jf_Run_put (qm_rf this 1) p1 x3) fun _ =>
    mP ()
set_option maxRecDepth 20000 in
set_option maxHeartbeats 4000000 in
theorem jb_Teller_readSetting {X : qm_X} (hX : qm_ok X qr_Teller prog_8_method_9_code 4 2 45 jl_Teller_readSetting) {σ0 : qm_Mem} (hR : qm_RV X σ0) (this : Nat) (p1 : Int32) (p2 : Int32) (hthis : (qm_kd this).1 = 16) : qm_B X (jf_Teller_readSetting this p1 p2) 0 [some (.ref (qx_ad X this)), some (.int p1), some (.int p2), none] [] (fun _ σ1 => σ1 = σ0) := by
  unfold jf_Teller_readSetting
  refine qb_aload_n hX 0 rfl rfl ?_
  refine qb_iload_n hX 1 rfl rfl ?_
  refine qb_iload_n hX 2 rfl rfl ?_
  refine qb_callV hX 3 rfl cv_Teller_117 (jm_Teller_tellOnce (qk_GI hX) this p1 p2 hthis ) (ci := 6) hthis ⟨rfl, rfl, rfl, by decide, by decide⟩ rfl (by exact Nat.le_of_ble_eq_true rfl) ?_
  refine qb_aload_n hX 4 rfl rfl ?_
  refine qb_getsN hX 5 (n := "SETTING_LEAST") 406 rfl (by decide +kernel) (by decide +kernel) ?_
  refine qb_iload_n hX 6 rfl rfl ?_
  refine qb_calNI hX 7 rfl cv_Teller_73 (jm_Top_at (qk_GI hX) 406 p1 (rfl : (qm_kd 406).1 = 1)) ⟨rfl, by decide, by decide⟩ rfl (by exact Nat.le_of_ble_eq_true rfl) (fun x1 => ?_)
  refine qb_getsN hX 8 (n := "SETTING_MOST") 407 rfl (by decide +kernel) (by decide +kernel) ?_
  refine qb_iload_n hX 9 rfl rfl ?_
  refine qb_calNI hX 10 rfl cv_Teller_73 (jm_Top_at (qk_GI hX) 407 p1 (rfl : (qm_kd 407).1 = 1)) ⟨rfl, by decide, by decide⟩ rfl (by exact Nat.le_of_ble_eq_true rfl) (fun x2 => ?_)
  refine qb_callI hX 11 rfl cv_Teller_126 (jm_Teller_readNumber (qk_GI hX) this x1 x2 hthis ) (ci := 6) hthis ⟨rfl, rfl, rfl, by decide, by decide⟩ rfl (by exact Nat.le_of_ble_eq_true rfl) (fun x3 => ?_)
  refine qb_istore_n hX 12 ([some (.ref (qx_ad X this)), some (.int p1), some (.int p2), some (.int x3)]) rfl (by decide) rfl ?_
  refine qb_aload_n hX 13 rfl rfl ?_
  refine qb_get hX 14 rfl fl_Teller_42 hthis rfl (fun x4 => ?_)
  refine qb_iconst hX 15 (-1) rfl (by decide) ?_
  refine qb_icne hX 16 42 rfl (by decide) ?_ ?_
  ·
    exact qb_vret hX 22 rfl hR (fun _ h => h)
  ·
    refine qb_aload_n hX 17 rfl rfl ?_
    refine qb_getR hX 18 rfl fl_Teller_18 hthis rfl ?_
    refine qb_iload_n hX 19 rfl rfl ?_
    refine qb_iload_n hX 20 rfl rfl ?_
    refine qb_callV hX 21 rfl cv_Teller_129 (jm_Run_put (qk_GI hX) (qm_rf this 1) p1 x3 (kf_Teller_1 hthis) ) (ci := 4) (kf_Teller_1 hthis) ⟨rfl, rfl, rfl, by decide, by decide⟩ rfl (by exact Nat.le_of_ble_eq_true rfl) ?_
    exact qb_vret hX 22 rfl hR (fun _ h => h)
theorem jm_Teller_readSetting {l : Launch} {G : qm_G} (hG : qm_GI G) (this : Nat) (p1 : Int32) (p2 : Int32) (hthis : (qm_kd this).1 = 16) : qm_MV l G jy_Teller_readSetting prog_8_method_9_code 4 2 45 [.ref (G.1 this), .int p1, .int p2] (jf_Teller_readSetting this p1 p2) :=
  qm_metV (by decide +kernel) jd_Teller_readSetting (fun v hv => by simp only [List.mem_cons, List.not_mem_nil, or_false] at hv; rcases hv with rfl | rfl | rfl <;> rfl) (by exact Nat.le_of_ble_eq_true rfl) hG (fun X hl hg hX σ0 hR => by subst hl; subst hg; exact jb_Teller_readSetting hX hR this p1 p2 hthis)
def jl_Teller_mostHigh : List qm_I := [(0, .iload_n 0, 1, 1), (1, .tableswitch 41 1 4 #[31, 35, 41, 38], 31, 32), (32, .sipush 200, 3, 35), (35, .ireturn, 1, 36), (36, .bipush 30, 2, 38), (38, .ireturn, 1, 39), (39, .bipush 60, 2, 41), (41, .ireturn, 1, 42), (42, .bipush 9, 2, 44), (44, .ireturn, 1, 45)]
theorem jd_Teller_mostHigh : qm_D prog_8_method_11_code jl_Teller_mostHigh := qm_D_of (by decide +kernel)
noncomputable def jf_Teller_mostHigh (p1 : Int32) : qm_M Int32 :=
  if p1 = 1 then
    mP 200
  else
  if p1 = 2 then
    mP 30
  else
  if p1 = 3 then
    mP 9
  else
  if p1 = 4 then
    mP 60
  else
  mP 9
set_option maxRecDepth 20000 in
set_option maxHeartbeats 4000000 in
theorem jb_Teller_mostHigh {X : qm_X} (hX : qm_ok X qr_Teller prog_8_method_11_code 1 0 0 jl_Teller_mostHigh) {r0 : Int32} {σ0 : qm_Mem} (hR : qm_RI X r0 σ0 .int) (p1 : Int32)  : qm_B X (jf_Teller_mostHigh p1) 0 [some (.int p1)] [] (fun r σ1 => r = r0 ∧ σ1 = σ0) := by
  unfold jf_Teller_mostHigh
  refine qb_iload_n hX 0 rfl rfl ?_
  refine qb_swc 1 ?_ (fun h0 => ?_)
  ·
    refine qb_tin hX 1 32 rfl (by decide) (by decide) rfl (by decide) ?_
    refine qb_sipush hX 2 200 rfl (by decide) ?_
    exact qb_iret hX 3 rfl hR (fun _ h => h)
  refine qb_swc 2 ?_ (fun h1 => ?_)
  ·
    refine qb_tin hX 1 36 rfl (by decide) (by decide) rfl (by decide) ?_
    refine qb_bipush hX 4 30 rfl (by decide) ?_
    exact qb_iret hX 5 rfl hR (fun _ h => h)
  refine qb_swc 3 ?_ (fun h2 => ?_)
  ·
    refine qb_tin hX 1 42 rfl (by decide) (by decide) rfl (by decide) ?_
    refine qb_bipush hX 8 9 rfl (by decide) ?_
    exact qb_iret hX 9 rfl hR (fun _ h => h)
  refine qb_swc 4 ?_ (fun h3 => ?_)
  ·
    refine qb_tin hX 1 39 rfl (by decide) (by decide) rfl (by decide) ?_
    refine qb_bipush hX 6 60 rfl (by decide) ?_
    exact qb_iret hX 7 rfl hR (fun _ h => h)
  refine qb_tout hX 1 42 rfl (by have g0 := lv_neT (a := 1) h0 (by decide); have g1 := lv_neT (a := 2) h1 (by decide); have g2 := lv_neT (a := 3) h2 (by decide); have g3 := lv_neT (a := 4) h3 (by decide); omega) (by decide) ?_
  refine qb_bipush hX 8 9 rfl (by decide) ?_
  exact qb_iret hX 9 rfl hR (fun _ h => h)
theorem jm_Teller_mostHigh {l : Launch} {G : qm_G} (hG : qm_GI G) (p1 : Int32)  : qm_MI l G jy_Teller_mostHigh prog_8_method_11_code 1 (some .int) 0 0 [.int p1] (jf_Teller_mostHigh p1) :=
  qm_metI (by decide +kernel) jd_Teller_mostHigh (fun v hv => by simp only [List.mem_cons, List.not_mem_nil, or_false] at hv; rcases hv with rfl <;> rfl) (by exact Nat.le_of_ble_eq_true rfl) hG rfl (fun X hl hg hX r0 σ0 hR => by subst hl; subst hg; exact jb_Teller_mostHigh hX hR p1 )
def jl_Teller_readMark : List qm_I := [(0, .aload_n 0, 1, 1), (1, .getfield 18, 3, 4), (4, .iload_n 1, 1, 5), (5, .bipush 7, 2, 7), (7, .invokevirtual 151, 3, 10), (10, .iconst 4, 1, 11), (11, .if_icmp .lt 9, 3, 14), (14, .aload_n 0, 1, 15), (15, .iload_n 2, 1, 16), (16, .iconst 3, 1, 17), (17, .invokevirtual 58, 3, 20), (20, .aload_n 0, 1, 21), (21, .invokevirtual 55, 3, 24), (24, .istore_n 3, 1, 25), (25, .aload_n 0, 1, 26), (26, .iconst 1, 1, 27), (27, .aload_n 0, 1, 28), (28, .getfield 18, 3, 31), (31, .iload_n 1, 1, 32), (32, .iconst 1, 1, 33), (33, .invokevirtual 151, 3, 36), (36, .invokevirtual 126, 3, 39), (39, .istore 4, 2, 41), (41, .aload_n 0, 1, 42), (42, .getfield 18, 3, 45), (45, .iload_n 1, 1, 46), (46, .iload 4, 2, 48), (48, .invokevirtual 154, 3, 51), (51, .ifCond .le 9, 3, 54), (54, .aload_n 0, 1, 55), (55, .iload_n 3, 1, 56), (56, .iconst 2, 1, 57), (57, .invokevirtual 58, 3, 60), (60, .aload_n 0, 1, 61), (61, .iconst 1, 1, 62), (62, .bipush 20, 2, 64), (64, .invokevirtual 126, 3, 67), (67, .istore 5, 2, 69), (69, .aload_n 0, 1, 70), (70, .getfield 42, 3, 73), (73, .iconst (-1), 1, 74), (74, .if_icmp .ne 15, 3, 77), (77, .aload_n 0, 1, 78), (78, .getfield 18, 3, 81), (81, .iload_n 1, 1, 82), (82, .iload 4, 2, 84), (84, .iload 5, 2, 86), (86, .invokevirtual 157, 3, 89), (89, .return_, 1, 90)]
theorem jd_Teller_readMark : qm_D prog_8_method_13_code jl_Teller_readMark := qm_D_of (by decide +kernel)
noncomputable def jf_Teller_readMark (this : Nat) (p1 : Int32) (p2 : Int32) : qm_M Unit :=
  mB (jf_Run_cell (qm_rf this 1) p1 7) fun x1 =>
  mB (α := Unit) (
    if x1 < 4 then
      mP ()
    else
      mB (jf_Teller_wrong this p2 3) fun _ =>
      mP ()) fun s2 =>
  mB (jf_Teller_place this) fun x3 =>
  mB (jf_Run_cell (qm_rf this 1) p1 1) fun x4 =>
  mB (jf_Teller_readNumber this 1 x4) fun x5 =>
  mB (jf_Run_noteAt (qm_rf this 1) p1 x5) fun x6 =>
  mB (α := Unit) (
    if x6 ≤ 0 then
      mP ()
    else
      mB (jf_Teller_wrong this x3 2) fun _ =>
      mP ()) fun s7 =>
  mB (jf_Teller_readNumber this 1 20) fun x8 =>
  mB (mGt this 6) fun x9 =>
  if ¬ x9 = (-1) then
    mP ()
  else
    mB (jf_Run_addMark (qm_rf this 1) p1 x5 x8) fun _ =>
    mP ()
set_option maxRecDepth 20000 in
set_option maxHeartbeats 4000000 in
theorem jb_Teller_readMark {X : qm_X} (hX : qm_ok X qr_Teller prog_8_method_13_code 6 2 47 jl_Teller_readMark) {σ0 : qm_Mem} (hR : qm_RV X σ0) (this : Nat) (p1 : Int32) (p2 : Int32) (hthis : (qm_kd this).1 = 16) : qm_B X (jf_Teller_readMark this p1 p2) 0 [some (.ref (qx_ad X this)), some (.int p1), some (.int p2), none, none, none] [] (fun _ σ1 => σ1 = σ0) := by
  unfold jf_Teller_readMark
  refine qb_aload_n hX 0 rfl rfl ?_
  refine qb_getR hX 1 rfl fl_Teller_18 hthis rfl ?_
  refine qb_iload_n hX 2 rfl rfl ?_
  refine qb_bipush hX 3 7 rfl (by decide) ?_
  refine qb_callI hX 4 rfl cv_Teller_151 (jm_Run_cell (qk_GI hX) (qm_rf this 1) p1 7 (kf_Teller_1 hthis) ) (ci := 4) (kf_Teller_1 hthis) ⟨rfl, rfl, rfl, by decide, by decide⟩ rfl (by exact Nat.le_of_ble_eq_true rfl) (fun x1 => ?_)
  refine qb_iconst hX 5 4 rfl (by decide) ?_
  refine qb_join 20 (fun s2 => [some (.ref (qx_ad X this)), some (.int p1), none, none, none, none]) (fun s2 => []) ?_ ?_
  ·
    refine qb_iclt hX 6 20 rfl (by decide) ?_ ?_
    ·
      exact qb_exit (fun σ h => qj_wk (ρ' := [some (.ref (qx_ad X this)), some (.int p1), none, none, none, none]) (qw_s (qw_s (qw_n (qw_n (qw_n (qw_n (qw_0))))))) h)
    ·
      refine qb_aload_n hX 7 rfl rfl ?_
      refine qb_iload_n hX 8 rfl rfl ?_
      refine qb_iconst hX 9 3 rfl (by decide) ?_
      refine qb_callV hX 10 rfl cv_Teller_58 (jm_Teller_wrong (qk_GI hX) this p2 3 hthis ) (ci := 6) hthis ⟨rfl, rfl, rfl, by decide, by decide⟩ rfl (by exact Nat.le_of_ble_eq_true rfl) ?_
      exact qb_exit (fun σ h => qj_wk (ρ' := [some (.ref (qx_ad X this)), some (.int p1), none, none, none, none]) (qw_s (qw_s (qw_n (qw_n (qw_n (qw_n (qw_0))))))) h)
  · intro s2
    refine qb_aload_n hX 11 rfl rfl ?_
    refine qb_callI hX 12 rfl cv_Teller_55 (jm_Teller_place (qk_GI hX) this  hthis ) (ci := 6) hthis ⟨rfl, rfl, rfl, by decide, by decide⟩ rfl (by exact Nat.le_of_ble_eq_true rfl) (fun x3 => ?_)
    refine qb_istore_n hX 13 ([some (.ref (qx_ad X this)), some (.int p1), none, some (.int x3), none, none]) rfl (by decide) rfl ?_
    refine qb_aload_n hX 14 rfl rfl ?_
    refine qb_iconst hX 15 1 rfl (by decide) ?_
    refine qb_aload_n hX 16 rfl rfl ?_
    refine qb_getR hX 17 rfl fl_Teller_18 hthis rfl ?_
    refine qb_iload_n hX 18 rfl rfl ?_
    refine qb_iconst hX 19 1 rfl (by decide) ?_
    refine qb_callI hX 20 rfl cv_Teller_151 (jm_Run_cell (qk_GI hX) (qm_rf this 1) p1 1 (kf_Teller_1 hthis) ) (ci := 4) (kf_Teller_1 hthis) ⟨rfl, rfl, rfl, by decide, by decide⟩ rfl (by exact Nat.le_of_ble_eq_true rfl) (fun x4 => ?_)
    refine qb_callI hX 21 rfl cv_Teller_126 (jm_Teller_readNumber (qk_GI hX) this 1 x4 hthis ) (ci := 6) hthis ⟨rfl, rfl, rfl, by decide, by decide⟩ rfl (by exact Nat.le_of_ble_eq_true rfl) (fun x5 => ?_)
    refine qb_istore hX 22 ([some (.ref (qx_ad X this)), some (.int p1), none, some (.int x3), some (.int x5), none]) rfl (by decide) rfl ?_
    refine qb_aload_n hX 23 rfl rfl ?_
    refine qb_getR hX 24 rfl fl_Teller_18 hthis rfl ?_
    refine qb_iload_n hX 25 rfl rfl ?_
    refine qb_iload hX 26 rfl rfl ?_
    refine qb_callI hX 27 rfl cv_Teller_154 (jm_Run_noteAt (qk_GI hX) (qm_rf this 1) p1 x5 (kf_Teller_1 hthis) ) (ci := 4) (kf_Teller_1 hthis) ⟨rfl, rfl, rfl, by decide, by decide⟩ rfl (by exact Nat.le_of_ble_eq_true rfl) (fun x6 => ?_)
    refine qb_join 60 (fun s7 => [some (.ref (qx_ad X this)), some (.int p1), none, none, some (.int x5), none]) (fun s7 => []) ?_ ?_
    ·
      refine qb_ifle hX 28 60 rfl (by decide) ?_ ?_
      ·
        exact qb_exit (fun σ h => qj_wk (ρ' := [some (.ref (qx_ad X this)), some (.int p1), none, none, some (.int x5), none]) (qw_s (qw_s (qw_n (qw_n (qw_s (qw_n (qw_0))))))) h)
      ·
        refine qb_aload_n hX 29 rfl rfl ?_
        refine qb_iload_n hX 30 rfl rfl ?_
        refine qb_iconst hX 31 2 rfl (by decide) ?_
        refine qb_callV hX 32 rfl cv_Teller_58 (jm_Teller_wrong (qk_GI hX) this x3 2 hthis ) (ci := 6) hthis ⟨rfl, rfl, rfl, by decide, by decide⟩ rfl (by exact Nat.le_of_ble_eq_true rfl) ?_
        exact qb_exit (fun σ h => qj_wk (ρ' := [some (.ref (qx_ad X this)), some (.int p1), none, none, some (.int x5), none]) (qw_s (qw_s (qw_n (qw_n (qw_s (qw_n (qw_0))))))) h)
    · intro s7
      refine qb_aload_n hX 33 rfl rfl ?_
      refine qb_iconst hX 34 1 rfl (by decide) ?_
      refine qb_bipush hX 35 20 rfl (by decide) ?_
      refine qb_callI hX 36 rfl cv_Teller_126 (jm_Teller_readNumber (qk_GI hX) this 1 20 hthis ) (ci := 6) hthis ⟨rfl, rfl, rfl, by decide, by decide⟩ rfl (by exact Nat.le_of_ble_eq_true rfl) (fun x8 => ?_)
      refine qb_istore hX 37 ([some (.ref (qx_ad X this)), some (.int p1), none, none, some (.int x5), some (.int x8)]) rfl (by decide) rfl ?_
      refine qb_aload_n hX 38 rfl rfl ?_
      refine qb_get hX 39 rfl fl_Teller_42 hthis rfl (fun x9 => ?_)
      refine qb_iconst hX 40 (-1) rfl (by decide) ?_
      refine qb_icne hX 41 89 rfl (by decide) ?_ ?_
      ·
        exact qb_vret hX 48 rfl hR (fun _ h => h)
      ·
        refine qb_aload_n hX 42 rfl rfl ?_
        refine qb_getR hX 43 rfl fl_Teller_18 hthis rfl ?_
        refine qb_iload_n hX 44 rfl rfl ?_
        refine qb_iload hX 45 rfl rfl ?_
        refine qb_iload hX 46 rfl rfl ?_
        refine qb_callV hX 47 rfl cv_Teller_157 (jm_Run_addMark (qk_GI hX) (qm_rf this 1) p1 x5 x8 (kf_Teller_1 hthis) ) (ci := 4) (kf_Teller_1 hthis) ⟨rfl, rfl, rfl, by decide, by decide⟩ rfl (by exact Nat.le_of_ble_eq_true rfl) ?_
        exact qb_vret hX 48 rfl hR (fun _ h => h)
theorem jm_Teller_readMark {l : Launch} {G : qm_G} (hG : qm_GI G) (this : Nat) (p1 : Int32) (p2 : Int32) (hthis : (qm_kd this).1 = 16) : qm_MV l G jy_Teller_readMark prog_8_method_13_code 6 2 47 [.ref (G.1 this), .int p1, .int p2] (jf_Teller_readMark this p1 p2) :=
  qm_metV (by decide +kernel) jd_Teller_readMark (fun v hv => by simp only [List.mem_cons, List.not_mem_nil, or_false] at hv; rcases hv with rfl | rfl | rfl <;> rfl) (by exact Nat.le_of_ble_eq_true rfl) hG (fun X hl hg hX σ0 hR => by subst hl; subst hg; exact jb_Teller_readMark hX hR this p1 p2 hthis)
def jl_Teller_readWords : List qm_I := [(0, .aload_n 0, 1, 1), (1, .dup, 1, 2), (2, .getfield 45, 3, 5), (5, .sipush 255, 3, 8), (8, .iand, 1, 9), (9, .putfield 45, 3, 12), (12, .iconst 0, 1, 13), (13, .istore_n 3, 1, 14), (14, .aload_n 0, 1, 15), (15, .getfield 42, 3, 18), (18, .iconst (-1), 1, 19), (19, .if_icmp .ne 167, 3, 22), (22, .aload_n 0, 1, 23), (23, .invokevirtual 48, 3, 26), (26, .iconst 4, 1, 27), (27, .if_icmp .eq 159, 3, 30), (30, .aload_n 0, 1, 31), (31, .invokevirtual 48, 3, 34), (34, .iconst 2, 1, 35), (35, .if_icmp .eq 151, 3, 38), (38, .iload_n 3, 1, 39), (39, .sipush 401, 3, 42), (42, .if_icmp .ge 144, 3, 45), (45, .aload_n 0, 1, 46), (46, .invokevirtual 55, 3, 49), (49, .istore 4, 2, 51), (51, .aload_n 0, 1, 52), (52, .invokevirtual 108, 3, 55), (55, .istore 5, 2, 57), (57, .iload 5, 2, 59), (59, .bipush 13, 2, 61), (61, .if_icmp .ne 24, 3, 64), (64, .aload_n 0, 1, 65), (65, .iload 5, 2, 67), (67, .iload 4, 2, 69), (69, .invokevirtual 117, 3, 72), (72, .aload_n 0, 1, 73), (73, .getfield 18, 3, 76), (76, .iload_n 1, 1, 77), (77, .iconst 4, 1, 78), (78, .iconst 1, 1, 79), (79, .invokevirtual 138, 3, 82), (82, .goto 98, 3, 85), (85, .iload 5, 2, 87), (87, .bipush 14, 2, 89), (89, .if_icmp .ne 28, 3, 92), (92, .iload_n 2, 1, 93), (93, .ifCond .ne 24, 3, 96), (96, .aload_n 0, 1, 97), (97, .iload 5, 2, 99), (99, .iload 4, 2, 101), (101, .invokevirtual 117, 3, 104), (104, .aload_n 0, 1, 105), (105, .getfield 18, 3, 108), (108, .iload_n 1, 1, 109), (109, .iconst 5, 1, 110), (110, .iconst 1, 1, 111), (111, .invokevirtual 138, 3, 114), (114, .goto 66, 3, 117), (117, .iload 5, 2, 119), (119, .bipush 15, 2, 121), (121, .if_icmp .ne 31, 3, 124), (124, .aload_n 0, 1, 125), (125, .iload 5, 2, 127), (127, .iload 4, 2, 129), (129, .invokevirtual 117, 3, 132), (132, .aload_n 0, 1, 133), (133, .getfield 18, 3, 136), (136, .iload_n 1, 1, 137), (137, .bipush 6, 2, 139), (139, .aload_n 0, 1, 140), (140, .iconst 0, 1, 141), (141, .bipush 30, 2, 143), (143, .invokevirtual 126, 3, 146), (146, .invokevirtual 138, 3, 149), (149, .goto 31, 3, 152), (152, .iload 5, 2, 154), (154, .bipush 16, 2, 156), (156, .if_icmp .ne 17, 3, 159), (159, .iload_n 2, 1, 160), (160, .ifCond .ne 13, 3, 163), (163, .aload_n 0, 1, 164), (164, .iload_n 1, 1, 165), (165, .iload 4, 2, 167), (167, .invokevirtual 148, 3, 170), (170, .goto 10, 3, 173), (173, .aload_n 0, 1, 174), (174, .iload 4, 2, 176), (176, .iconst 1, 1, 177), (177, .invokevirtual 58, 3, 180), (180, .iinc 3 1, 3, 183), (183, .goto (-169), 3, 186), (186, .return_, 1, 187)]
theorem jd_Teller_readWords : qm_D prog_8_method_12_code jl_Teller_readWords := qm_D_of (by decide +kernel)
noncomputable def jf_Teller_readWords (this : Nat) (p1 : Int32) (p2 : Int32) : qm_M Unit :=
  mB (mGt this 7) fun x1 =>
  mB (mPt this 7 (x1 &&& 255)) fun _ =>
  mB (α := Unit) (
    mW (S := Int32) (α := Unit) (fun s3 =>
      mB (mGt this 6) fun x4 =>
      if ¬ x4 = (-1) then
        mP (Sum.inr ())
      else
        mB (jf_Teller_sign this) fun x5 =>
        if x5 = 4 then
          mP (Sum.inr ())
        else
          mB (jf_Teller_sign this) fun x6 =>
          if x6 = 2 then
            mP (Sum.inr ())
          else
            if 401 ≤ s3 then
              mP (Sum.inr ())
            else
              mB (jf_Teller_place this) fun x7 =>
              mB (jf_Teller_readWord this) fun x8 =>
              mB (α := Unit) (
                if ¬ x8 = 13 then
                  mB (α := (Unit ⊕ Unit)) (
                    if ¬ x8 = 14 then
                      mP (Sum.inl ())
                    else
                      if ¬ p2 = 0 then
                        mP (Sum.inl ())
                      else
                        mB (jf_Teller_tellOnce this x8 x7) fun _ =>
                        mB (jf_Run_putCell (qm_rf this 1) p1 5 1) fun _ =>
                        mP (Sum.inr ())) (Sum.elim (fun s10 =>
                    if ¬ x8 = 15 then
                      mB (α := (Unit ⊕ Unit)) (
                        if ¬ x8 = 16 then
                          mP (Sum.inl ())
                        else
                          if ¬ p2 = 0 then
                            mP (Sum.inl ())
                          else
                            mB (jf_Teller_readMark this p1 x7) fun _ =>
                            mP (Sum.inr ())) (Sum.elim (fun s11 =>
                        mB (jf_Teller_wrong this x7 1) fun _ =>
                        mP ()) mP)
                    else
                      mB (jf_Teller_tellOnce this x8 x7) fun _ =>
                      mB (jf_Teller_readNumber this 0 30) fun x12 =>
                      mB (jf_Run_putCell (qm_rf this 1) p1 6 x12) fun _ =>
                      mP ()) mP)
                else
                  mB (jf_Teller_tellOnce this x8 x7) fun _ =>
                  mB (jf_Run_putCell (qm_rf this 1) p1 4 1) fun _ =>
                  mP ()) fun s9 =>
              mB (mP (s3 + 1)) fun x13 =>
              mP (Sum.inl x13)) 0) fun s2 =>
  mP ()
set_option maxRecDepth 20000 in
set_option maxHeartbeats 4000000 in
theorem jb_Teller_readWords {X : qm_X} (hX : qm_ok X qr_Teller prog_8_method_12_code 6 3 72 jl_Teller_readWords) {σ0 : qm_Mem} (hR : qm_RV X σ0) (this : Nat) (p1 : Int32) (p2 : Int32) (hthis : (qm_kd this).1 = 16) : qm_B X (jf_Teller_readWords this p1 p2) 0 [some (.ref (qx_ad X this)), some (.int p1), some (.int p2), none, none, none] [] (fun _ σ1 => σ1 = σ0) := by
  unfold jf_Teller_readWords
  refine qb_aload_n hX 0 rfl rfl ?_
  refine qb_dup hX 1 rfl rfl ?_
  refine qb_get hX 2 rfl fl_Teller_45 hthis rfl (fun x1 => ?_)
  refine qb_sipush hX 3 255 rfl (by decide) ?_
  refine qb_iand hX 4 rfl ?_
  refine qb_put hX 5 rfl fp_Teller_45 hthis ?_
  refine qb_iconst hX 6 0 rfl (by decide) ?_
  refine qb_istore_n hX 7 ([some (.ref (qx_ad X this)), some (.int p1), some (.int p2), some (.int 0), none, none]) rfl (by decide) rfl ?_
  refine qb_join 186 (fun s2 => [none, none, none, none, none, none]) (fun s2 => []) ?_ ?_
  ·
    refine qb_loopw (0) (fun s3 => [some (.ref (qx_ad X this)), some (.int p1), some (.int p2), some (.int s3), none, none]) (qw_s (qw_s (qw_s (qw_s (qw_n (qw_n (qw_0))))))) (fun s3 => ?_)
    refine qb_aload_n hX 8 rfl rfl ?_
    refine qb_get hX 9 rfl fl_Teller_42 hthis rfl (fun x4 => ?_)
    refine qb_iconst hX 10 (-1) rfl (by decide) ?_
    refine qb_icne hX 11 186 rfl (by decide) ?_ ?_
    ·
      exact qb_exit (fun σ h => qj_wk (ρ' := [none, none, none, none, none, none]) (qw_n (qw_n (qw_n (qw_n (qw_n (qw_n (qw_0))))))) h)
    ·
      refine qb_aload_n hX 12 rfl rfl ?_
      refine qb_callI hX 13 rfl cv_Teller_48 (jm_Teller_sign (qk_GI hX) this  hthis ) (ci := 6) hthis ⟨rfl, rfl, rfl, by decide, by decide⟩ rfl (by exact Nat.le_of_ble_eq_true rfl) (fun x5 => ?_)
      refine qb_iconst hX 14 4 rfl (by decide) ?_
      refine qb_iceq hX 15 186 rfl (by decide) ?_ ?_
      ·
        exact qb_exit (fun σ h => qj_wk (ρ' := [none, none, none, none, none, none]) (qw_n (qw_n (qw_n (qw_n (qw_n (qw_n (qw_0))))))) h)
      ·
        refine qb_aload_n hX 16 rfl rfl ?_
        refine qb_callI hX 17 rfl cv_Teller_48 (jm_Teller_sign (qk_GI hX) this  hthis ) (ci := 6) hthis ⟨rfl, rfl, rfl, by decide, by decide⟩ rfl (by exact Nat.le_of_ble_eq_true rfl) (fun x6 => ?_)
        refine qb_iconst hX 18 2 rfl (by decide) ?_
        refine qb_iceq hX 19 186 rfl (by decide) ?_ ?_
        ·
          exact qb_exit (fun σ h => qj_wk (ρ' := [none, none, none, none, none, none]) (qw_n (qw_n (qw_n (qw_n (qw_n (qw_n (qw_0))))))) h)
        ·
          refine qb_iload_n hX 20 rfl rfl ?_
          refine qb_sipush hX 21 401 rfl (by decide) ?_
          refine qb_icge hX 22 186 rfl (by decide) ?_ ?_
          ·
            exact qb_exit (fun σ h => qj_wk (ρ' := [none, none, none, none, none, none]) (qw_n (qw_n (qw_n (qw_n (qw_n (qw_n (qw_0))))))) h)
          ·
            refine qb_aload_n hX 23 rfl rfl ?_
            refine qb_callI hX 24 rfl cv_Teller_55 (jm_Teller_place (qk_GI hX) this  hthis ) (ci := 6) hthis ⟨rfl, rfl, rfl, by decide, by decide⟩ rfl (by exact Nat.le_of_ble_eq_true rfl) (fun x7 => ?_)
            refine qb_istore hX 25 ([some (.ref (qx_ad X this)), some (.int p1), some (.int p2), some (.int s3), some (.int x7), none]) rfl (by decide) rfl ?_
            refine qb_aload_n hX 26 rfl rfl ?_
            refine qb_callI hX 27 rfl cv_Teller_108 (jm_Teller_readWord (qk_GI hX) this  hthis ) (ci := 6) hthis ⟨rfl, rfl, rfl, by decide, by decide⟩ rfl (by exact Nat.le_of_ble_eq_true rfl) (fun x8 => ?_)
            refine qb_istore hX 28 ([some (.ref (qx_ad X this)), some (.int p1), some (.int p2), some (.int s3), some (.int x7), some (.int x8)]) rfl (by decide) rfl ?_
            refine qb_iload hX 29 rfl rfl ?_
            refine qb_bipush hX 30 13 rfl (by decide) ?_
            refine qb_join 180 (fun s9 => [some (.ref (qx_ad X this)), some (.int p1), some (.int p2), some (.int s3), none, none]) (fun s9 => []) ?_ ?_
            ·
              refine qb_icne hX 31 85 rfl (by decide) ?_ ?_
              ·
                refine qb_iload hX 43 rfl rfl ?_
                refine qb_bipush hX 44 14 rfl (by decide) ?_
                refine qb_join2 117 (fun s10 => [some (.ref (qx_ad X this)), some (.int p1), some (.int p2), some (.int s3), some (.int x7), some (.int x8)]) (fun s10 => []) ?_ ?_
                ·
                  refine qb_icne hX 45 117 rfl (by decide) ?_ ?_
                  ·
                    exact qb_exit (fun σ h => qj_wk (ρ' := [some (.ref (qx_ad X this)), some (.int p1), some (.int p2), some (.int s3), some (.int x7), some (.int x8)]) (qw_s (qw_s (qw_s (qw_s (qw_s (qw_s (qw_0))))))) h)
                  ·
                    refine qb_iload_n hX 46 rfl rfl ?_
                    refine qb_ifne hX 47 117 rfl (by decide) ?_ ?_
                    ·
                      exact qb_exit (fun σ h => qj_wk (ρ' := [some (.ref (qx_ad X this)), some (.int p1), some (.int p2), some (.int s3), some (.int x7), some (.int x8)]) (qw_s (qw_s (qw_s (qw_s (qw_s (qw_s (qw_0))))))) h)
                    ·
                      refine qb_aload_n hX 48 rfl rfl ?_
                      refine qb_iload hX 49 rfl rfl ?_
                      refine qb_iload hX 50 rfl rfl ?_
                      refine qb_callV hX 51 rfl cv_Teller_117 (jm_Teller_tellOnce (qk_GI hX) this x8 x7 hthis ) (ci := 6) hthis ⟨rfl, rfl, rfl, by decide, by decide⟩ rfl (by exact Nat.le_of_ble_eq_true rfl) ?_
                      refine qb_aload_n hX 52 rfl rfl ?_
                      refine qb_getR hX 53 rfl fl_Teller_18 hthis rfl ?_
                      refine qb_iload_n hX 54 rfl rfl ?_
                      refine qb_iconst hX 55 5 rfl (by decide) ?_
                      refine qb_iconst hX 56 1 rfl (by decide) ?_
                      refine qb_callV hX 57 rfl cv_Teller_138 (jm_Run_putCell (qk_GI hX) (qm_rf this 1) p1 5 1 (kf_Teller_1 hthis) ) (ci := 4) (kf_Teller_1 hthis) ⟨rfl, rfl, rfl, by decide, by decide⟩ rfl (by exact Nat.le_of_ble_eq_true rfl) ?_
                      exact qb_exit (fun σ h => qj_goto hX 58 rfl (by decide) (qj_wk (ρ' := [some (.ref (qx_ad X this)), some (.int p1), some (.int p2), some (.int s3), none, none]) (qw_s (qw_s (qw_s (qw_s (qw_n (qw_n (qw_0))))))) h))
                · intro s10
                  refine qb_iload hX 59 rfl rfl ?_
                  refine qb_bipush hX 60 15 rfl (by decide) ?_
                  refine qb_icne hX 61 152 rfl (by decide) ?_ ?_
                  ·
                    refine qb_iload hX 76 rfl rfl ?_
                    refine qb_bipush hX 77 16 rfl (by decide) ?_
                    refine qb_join2 173 (fun s11 => [some (.ref (qx_ad X this)), some (.int p1), some (.int p2), some (.int s3), some (.int x7), none]) (fun s11 => []) ?_ ?_
                    ·
                      refine qb_icne hX 78 173 rfl (by decide) ?_ ?_
                      ·
                        exact qb_exit (fun σ h => qj_wk (ρ' := [some (.ref (qx_ad X this)), some (.int p1), some (.int p2), some (.int s3), some (.int x7), none]) (qw_s (qw_s (qw_s (qw_s (qw_s (qw_n (qw_0))))))) h)
                      ·
                        refine qb_iload_n hX 79 rfl rfl ?_
                        refine qb_ifne hX 80 173 rfl (by decide) ?_ ?_
                        ·
                          exact qb_exit (fun σ h => qj_wk (ρ' := [some (.ref (qx_ad X this)), some (.int p1), some (.int p2), some (.int s3), some (.int x7), none]) (qw_s (qw_s (qw_s (qw_s (qw_s (qw_n (qw_0))))))) h)
                        ·
                          refine qb_aload_n hX 81 rfl rfl ?_
                          refine qb_iload_n hX 82 rfl rfl ?_
                          refine qb_iload hX 83 rfl rfl ?_
                          refine qb_callV hX 84 rfl cv_Teller_148 (jm_Teller_readMark (qk_GI hX) this p1 x7 hthis ) (ci := 6) hthis ⟨rfl, rfl, rfl, by decide, by decide⟩ rfl (by exact Nat.le_of_ble_eq_true rfl) ?_
                          exact qb_exit (fun σ h => qj_goto hX 85 rfl (by decide) (qj_wk (ρ' := [some (.ref (qx_ad X this)), some (.int p1), some (.int p2), some (.int s3), none, none]) (qw_s (qw_s (qw_s (qw_s (qw_n (qw_n (qw_0))))))) h))
                    · intro s11
                      refine qb_aload_n hX 86 rfl rfl ?_
                      refine qb_iload hX 87 rfl rfl ?_
                      refine qb_iconst hX 88 1 rfl (by decide) ?_
                      refine qb_callV hX 89 rfl cv_Teller_58 (jm_Teller_wrong (qk_GI hX) this x7 1 hthis ) (ci := 6) hthis ⟨rfl, rfl, rfl, by decide, by decide⟩ rfl (by exact Nat.le_of_ble_eq_true rfl) ?_
                      exact qb_exit (fun σ h => qj_wk (ρ' := [some (.ref (qx_ad X this)), some (.int p1), some (.int p2), some (.int s3), none, none]) (qw_s (qw_s (qw_s (qw_s (qw_n (qw_n (qw_0))))))) h)
                  ·
                    refine qb_aload_n hX 62 rfl rfl ?_
                    refine qb_iload hX 63 rfl rfl ?_
                    refine qb_iload hX 64 rfl rfl ?_
                    refine qb_callV hX 65 rfl cv_Teller_117 (jm_Teller_tellOnce (qk_GI hX) this x8 x7 hthis ) (ci := 6) hthis ⟨rfl, rfl, rfl, by decide, by decide⟩ rfl (by exact Nat.le_of_ble_eq_true rfl) ?_
                    refine qb_aload_n hX 66 rfl rfl ?_
                    refine qb_getR hX 67 rfl fl_Teller_18 hthis rfl ?_
                    refine qb_iload_n hX 68 rfl rfl ?_
                    refine qb_bipush hX 69 6 rfl (by decide) ?_
                    refine qb_aload_n hX 70 rfl rfl ?_
                    refine qb_iconst hX 71 0 rfl (by decide) ?_
                    refine qb_bipush hX 72 30 rfl (by decide) ?_
                    refine qb_callI hX 73 rfl cv_Teller_126 (jm_Teller_readNumber (qk_GI hX) this 0 30 hthis ) (ci := 6) hthis ⟨rfl, rfl, rfl, by decide, by decide⟩ rfl (by exact Nat.le_of_ble_eq_true rfl) (fun x12 => ?_)
                    refine qb_callV hX 74 rfl cv_Teller_138 (jm_Run_putCell (qk_GI hX) (qm_rf this 1) p1 6 x12 (kf_Teller_1 hthis) ) (ci := 4) (kf_Teller_1 hthis) ⟨rfl, rfl, rfl, by decide, by decide⟩ rfl (by exact Nat.le_of_ble_eq_true rfl) ?_
                    exact qb_exit (fun σ h => qj_goto hX 75 rfl (by decide) (qj_wk (ρ' := [some (.ref (qx_ad X this)), some (.int p1), some (.int p2), some (.int s3), none, none]) (qw_s (qw_s (qw_s (qw_s (qw_n (qw_n (qw_0))))))) h))
              ·
                refine qb_aload_n hX 32 rfl rfl ?_
                refine qb_iload hX 33 rfl rfl ?_
                refine qb_iload hX 34 rfl rfl ?_
                refine qb_callV hX 35 rfl cv_Teller_117 (jm_Teller_tellOnce (qk_GI hX) this x8 x7 hthis ) (ci := 6) hthis ⟨rfl, rfl, rfl, by decide, by decide⟩ rfl (by exact Nat.le_of_ble_eq_true rfl) ?_
                refine qb_aload_n hX 36 rfl rfl ?_
                refine qb_getR hX 37 rfl fl_Teller_18 hthis rfl ?_
                refine qb_iload_n hX 38 rfl rfl ?_
                refine qb_iconst hX 39 4 rfl (by decide) ?_
                refine qb_iconst hX 40 1 rfl (by decide) ?_
                refine qb_callV hX 41 rfl cv_Teller_138 (jm_Run_putCell (qk_GI hX) (qm_rf this 1) p1 4 1 (kf_Teller_1 hthis) ) (ci := 4) (kf_Teller_1 hthis) ⟨rfl, rfl, rfl, by decide, by decide⟩ rfl (by exact Nat.le_of_ble_eq_true rfl) ?_
                exact qb_exit (fun σ h => qj_goto hX 42 rfl (by decide) (qj_wk (ρ' := [some (.ref (qx_ad X this)), some (.int p1), some (.int p2), some (.int s3), none, none]) (qw_s (qw_s (qw_s (qw_s (qw_n (qw_n (qw_0))))))) h))
            · intro s9
              refine qb_iinc hX 90 1 (fun x13 => [some (.ref (qx_ad X this)), some (.int p1), some (.int p2), some (.int x13), none, none]) rfl (by decide) (by decide) rfl (fun _ => rfl) (fun x13 => ?_)
              exact qb_exit (fun σ h => qj_goto hX 91 rfl (by decide) (qj_wk (ρ' := [some (.ref (qx_ad X this)), some (.int p1), some (.int p2), some (.int x13), none, none]) (qw_s (qw_s (qw_s (qw_s (qw_n (qw_n (qw_0))))))) h))
  · intro s2
    exact qb_vret hX 92 rfl hR (fun _ h => h)
theorem jm_Teller_readWords {l : Launch} {G : qm_G} (hG : qm_GI G) (this : Nat) (p1 : Int32) (p2 : Int32) (hthis : (qm_kd this).1 = 16) : qm_MV l G jy_Teller_readWords prog_8_method_12_code 6 3 72 [.ref (G.1 this), .int p1, .int p2] (jf_Teller_readWords this p1 p2) :=
  qm_metV (by decide +kernel) jd_Teller_readWords (fun v hv => by simp only [List.mem_cons, List.not_mem_nil, or_false] at hv; rcases hv with rfl | rfl | rfl <;> rfl) (by exact Nat.le_of_ble_eq_true rfl) hG (fun X hl hg hX σ0 hR => by subst hl; subst hg; exact jb_Teller_readWords hX hR this p1 p2 hthis)
