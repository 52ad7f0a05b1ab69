def jl_Teller_isWord : List qm_I := [(0, .iload_n 3, 1, 1), (1, .iload_n 2, 1, 2), (2, .isub, 1, 3), (3, .istore 4, 2, 5), (5, .iload_n 1, 1, 6), (6, .ifCond .lt 34, 3, 9), (9, .iload 4, 2, 11), (11, .ifCond .le 29, 3, 14), (14, .iload_n 1, 1, 15), (15, .iload 4, 2, 17), (17, .iadd, 1, 18), (18, .ldc 94, 2, 20), (20, .invokevirtual 96, 3, 23), (23, .if_icmp .ge 17, 3, 26), (26, .ldc 94, 2, 28), (28, .iload_n 1, 1, 29), (29, .iload 4, 2, 31), (31, .iadd, 1, 32), (32, .invokevirtual 100, 3, 35), (35, .bipush 32, 2, 37), (37, .if_icmp .eq 5, 3, 40), (40, .iconst 0, 1, 41), (41, .ireturn, 1, 42), (42, .iconst 0, 1, 43), (43, .istore 5, 2, 45), (45, .iload 5, 2, 47), (47, .iload 4, 2, 49), (49, .if_icmp .ge 37, 3, 52), (52, .ldc 94, 2, 54), (54, .iload_n 1, 1, 55), (55, .iload 5, 2, 57), (57, .iadd, 1, 58), (58, .invokevirtual 100, 3, 61), (61, .aload_n 0, 1, 62), (62, .getfield 11, 3, 65), (65, .getfield 70, 3, 68), (68, .iload_n 2, 1, 69), (69, .iload 5, 2, 71), (71, .iadd, 1, 72), (72, .invokestatic 73, 3, 75), (75, .if_icmp .eq 5, 3, 78), (78, .iconst 0, 1, 79), (79, .ireturn, 1, 80), (80, .iinc 5 1, 3, 83), (83, .goto (-38), 3, 86), (86, .iconst 1, 1, 87), (87, .ireturn, 1, 88)]
theorem jd_Teller_isWord : qm_D prog_8_method_7_code jl_Teller_isWord := qm_D_of (by decide +kernel)
noncomputable def jf_Teller_isWord (this : Nat) (p1 : Int32) (p2 : Int32) (p3 : Int32) : qm_M Int32 :=
  mB (mP (p3 - p2)) fun x1 =>
  if p1 < 0 then
    mP 0
  else
    if x1 ≤ 0 then
      mP 0
    else
      mB (jf_String_length 408) fun x2 =>
      if x2 ≤ (p1 + x1) then
        mP 0
      else
        mB (jf_String_charAt 408 (p1 + x1)) fun x3 =>
        if x3 = 32 then
          mB (α := (Unit ⊕ Int32)) (
            mW (S := Int32) (α := (Unit ⊕ Int32)) (fun s5 =>
              if x1 ≤ s5 then
                mP (Sum.inr (Sum.inl ()))
              else
                mB (jf_String_charAt 408 (p1 + s5)) fun x6 =>
                mB (jf_Top_at (qm_rf (qm_rf this 0) 0) (p2 + s5)) fun x7 =>
                if x6 = x7 then
                  mB (mP (s5 + 1)) fun x8 =>
                  mP (Sum.inl x8)
                else
                  mP (Sum.inr (Sum.inr 0))) 0) (Sum.elim (fun s4 =>
            mP 1) mP)
        else
          mP 0
set_option maxRecDepth 20000 in
set_option maxHeartbeats 4000000 in
theorem jb_Teller_isWord {X : qm_X} (hX : qm_ok X qr_Teller prog_8_method_7_code 6 5 106 jl_Teller_isWord) {r0 : Int32} {σ0 : qm_Mem} (hR : qm_RI X r0 σ0 .boolean) (this : Nat) (p1 : Int32) (p2 : Int32) (p3 : Int32) (hthis : (qm_kd this).1 = 16) : qm_B X (jf_Teller_isWord this p1 p2 p3) 0 [some (.ref (qx_ad X this)), some (.int p1), some (.int p2), some (.int p3), none, none] [] (fun r σ1 => r = r0 ∧ σ1 = σ0) := by
  unfold jf_Teller_isWord
  refine qb_iload_n hX 0 rfl rfl ?_
  refine qb_iload_n hX 1 rfl rfl ?_
  refine qb_isub hX 2 rfl ?_
  refine qb_istoreL hX 3 (fun x1 => [some (.ref (qx_ad X this)), some (.int p1), some (.int p2), some (.int p3), some (.int x1), none]) rfl (by decide) (fun _ => rfl) (fun x1 => ?_)
  refine qb_iload_n hX 4 rfl rfl ?_
  refine qb_iflt hX 5 40 rfl (by decide) ?_ ?_
  ·
    refine qb_iconst hX 21 0 rfl (by decide) ?_
    exact qb_zret1 hX 22 rfl hR (by decide) (fun _ h => h)
  ·
    refine qb_iload hX 6 rfl rfl ?_
    refine qb_ifle hX 7 40 rfl (by decide) ?_ ?_
    ·
      refine qb_iconst hX 21 0 rfl (by decide) ?_
      exact qb_zret1 hX 22 rfl hR (by decide) (fun _ h => h)
    ·
      refine qb_iload_n hX 8 rfl rfl ?_
      refine qb_iload hX 9 rfl rfl ?_
      refine qb_iadd hX 10 rfl ?_
      refine qb_ldcS hX 11 408 rfl ks_Teller_94 ?_
      refine qb_scal hX 12 rfl cv_Teller_96 (jm_String_length (qk_GI hX) 408  (rfl : (qm_kd 408).1 = 6)) (rfl : (qm_kd 408).1 = 6) ⟨rfl, rfl, by decide, by decide⟩ rfl (by exact Nat.le_of_ble_eq_true rfl) (fun x2 => ?_)
      refine qb_icge hX 13 40 rfl (by decide) ?_ ?_
      ·
        refine qb_iconst hX 21 0 rfl (by decide) ?_
        exact qb_zret1 hX 22 rfl hR (by decide) (fun _ h => h)
      ·
        refine qb_ldcS hX 14 408 rfl ks_Teller_94 ?_
        refine qb_iload_n hX 15 rfl rfl ?_
        refine qb_iload hX 16 rfl rfl ?_
        refine qb_iadd hX 17 rfl ?_
        refine qb_scal hX 18 rfl cv_Teller_100 (jm_String_charAt (qk_GI hX) 408 (p1 + x1) (rfl : (qm_kd 408).1 = 6)) (rfl : (qm_kd 408).1 = 6) ⟨rfl, rfl, by decide, by decide⟩ rfl (by exact Nat.le_of_ble_eq_true rfl) (fun x3 => ?_)
        refine qb_bipush hX 19 32 rfl (by decide) ?_
        refine qb_iceq hX 20 42 rfl (by decide) ?_ ?_
        ·
          refine qb_iconst hX 23 0 rfl (by decide) ?_
          refine qb_istore hX 24 ([some (.ref (qx_ad X this)), some (.int p1), some (.int p2), some (.int p3), some (.int x1), some (.int 0)]) rfl (by decide) rfl ?_
          refine qb_join2 86 (fun s4 => [none, none, none, none, none, none]) (fun s4 => []) ?_ ?_
          ·
            refine qb_loopw (0) (fun s5 => [some (.ref (qx_ad X this)), some (.int p1), some (.int p2), none, some (.int x1), some (.int s5)]) (qw_s (qw_s (qw_s (qw_n (qw_s (qw_s (qw_0))))))) (fun s5 => ?_)
            refine qb_iload hX 25 rfl rfl ?_
            refine qb_iload hX 26 rfl rfl ?_
            refine qb_icge hX 27 86 rfl (by decide) ?_ ?_
            ·
              exact qb_exit (fun σ h => qj_wk (ρ' := [none, none, none, none, none, none]) (qw_n (qw_n (qw_n (qw_n (qw_n (qw_n (qw_0))))))) h)
            ·
              refine qb_ldcS hX 28 408 rfl ks_Teller_94 ?_
              refine qb_iload_n hX 29 rfl rfl ?_
              refine qb_iload hX 30 rfl rfl ?_
              refine qb_iadd hX 31 rfl ?_
              refine qb_scal hX 32 rfl cv_Teller_100 (jm_String_charAt (qk_GI hX) 408 (p1 + s5) (rfl : (qm_kd 408).1 = 6)) (rfl : (qm_kd 408).1 = 6) ⟨rfl, rfl, by decide, by decide⟩ rfl (by exact Nat.le_of_ble_eq_true rfl) (fun x6 => ?_)
              refine qb_aload_n hX 33 rfl rfl ?_
              refine qb_getR hX 34 rfl fl_Teller_11 hthis rfl ?_
              refine qb_getR hX 35 rfl fl_Teller_70 (kf_Teller_0 hthis) rfl ?_
              refine qb_iload_n hX 36 rfl rfl ?_
              refine qb_iload hX 37 rfl rfl ?_
              refine qb_iadd hX 38 rfl ?_
              refine qb_calNI hX 39 rfl cv_Teller_73 (jm_Top_at (qk_GI hX) (qm_rf (qm_rf this 0) 0) (p2 + s5) (kf_Tape_0 (kf_Teller_0 hthis))) ⟨rfl, by decide, by decide⟩ rfl (by exact Nat.le_of_ble_eq_true rfl) (fun x7 => ?_)
              refine qb_iceq hX 40 80 rfl (by decide) ?_ ?_
              ·
                refine qb_iinc hX 43 1 (fun x8 => [some (.ref (qx_ad X this)), some (.int p1), some (.int p2), none, some (.int x1), some (.int x8)]) rfl (by decide) (by decide) rfl (fun _ => rfl) (fun x8 => ?_)
                exact qb_exit (fun σ h => qj_goto hX 44 rfl (by decide) (qj_wk (ρ' := [some (.ref (qx_ad X this)), some (.int p1), some (.int p2), none, some (.int x1), some (.int x8)]) (qw_s (qw_s (qw_s (qw_n (qw_s (qw_s (qw_0))))))) h))
              ·
                refine qb_iconst hX 41 0 rfl (by decide) ?_
                exact qb_zret1 hX 42 rfl hR (by decide) (fun _ h => h)
          · intro s4
            refine qb_iconst hX 45 1 rfl (by decide) ?_
            exact qb_zret1 hX 46 rfl hR (by decide) (fun _ h => h)
        ·
          refine qb_iconst hX 21 0 rfl (by decide) ?_
          exact qb_zret1 hX 22 rfl hR (by decide) (fun _ h => h)
theorem jm_Teller_isWord {l : Launch} {G : qm_G} (hG : qm_GI G) (this : Nat) (p1 : Int32) (p2 : Int32) (p3 : Int32) (hthis : (qm_kd this).1 = 16) : qm_MI l G jy_Teller_isWord prog_8_method_7_code 6 (some .boolean) 5 106 [.ref (G.1 this), .int p1, .int p2, .int p3] (jf_Teller_isWord this p1 p2 p3) :=
  qm_metI (by decide +kernel) jd_Teller_isWord (fun v hv => by simp only [List.mem_cons, List.not_mem_nil, or_false] at hv; rcases hv with rfl | rfl | rfl | rfl <;> rfl) (by exact Nat.le_of_ble_eq_true rfl) hG rfl (fun X hl hg hX r0 σ0 hR => by subst hl; subst hg; exact jb_Teller_isWord hX hR this p1 p2 p3 hthis)
def jl_Teller_wordOf : List qm_I := [(0, .iconst (-1), 1, 1), (1, .istore_n 3, 1, 2), (2, .iconst 0, 1, 3), (3, .istore 4, 2, 5), (5, .iload 4, 2, 7), (7, .ldc 94, 2, 9), (9, .invokevirtual 96, 3, 12), (12, .if_icmp .ge 39, 3, 15), (15, .ldc 94, 2, 17), (17, .iload 4, 2, 19), (19, .invokevirtual 100, 3, 22), (22, .bipush 32, 2, 24), (24, .if_icmp .ne 21, 3, 27), (27, .iinc 3 1, 3, 30), (30, .aload_n 0, 1, 31), (31, .iload 4, 2, 33), (33, .iconst 1, 1, 34), (34, .iadd, 1, 35), (35, .iload_n 1, 1, 36), (36, .iload_n 2, 1, 37), (37, .invokevirtual 104, 3, 40), (40, .ifCond .eq 5, 3, 43), (43, .iload_n 3, 1, 44), (44, .ireturn, 1, 45), (45, .iinc 4 1, 3, 48), (48, .goto (-43), 3, 51), (51, .iconst (-1), 1, 52), (52, .ireturn, 1, 53)]
theorem jd_Teller_wordOf : qm_D prog_8_method_6_code jl_Teller_wordOf := qm_D_of (by decide +kernel)
noncomputable def jf_Teller_wordOf (this : Nat) (p1 : Int32) (p2 : Int32) : qm_M Int32 :=
  mB (α := (Unit ⊕ Int32)) (
    mW (S := Int32 × Int32) (α := (Unit ⊕ Int32)) (fun s2 =>
      mB (jf_String_length 408) fun x3 =>
      if x3 ≤ s2.2 then
        mP (Sum.inr (Sum.inl ()))
      else
        mB (jf_String_charAt 408 s2.2) fun x4 =>
        mB (α := (Int32 ⊕ ((Int32 × Int32) ⊕ (Unit ⊕ Int32)))) (
          if ¬ x4 = 32 then
            mP (Sum.inl s2.1)
          else
            mB (mP (s2.1 + 1)) fun x6 =>
            mB (jf_Teller_isWord this (s2.2 + 1) p1 p2) fun x7 =>
            if x7 = 0 then
              mP (Sum.inl x6)
            else
              mP (Sum.inr (Sum.inr (Sum.inr x6)))) (Sum.elim (fun s5 =>
          mB (mP (s2.2 + 1)) fun x8 =>
          mP (Sum.inl (s5, x8))) mP)) ((-1), 0)) (Sum.elim (fun s1 =>
    mP (-1)) mP)
set_option maxRecDepth 20000 in
set_option maxHeartbeats 4000000 in
theorem jb_Teller_wordOf {X : qm_X} (hX : qm_ok X qr_Teller prog_8_method_6_code 5 6 131 jl_Teller_wordOf) {r0 : Int32} {σ0 : qm_Mem} (hR : qm_RI X r0 σ0 .int) (this : Nat) (p1 : Int32) (p2 : Int32) (hthis : (qm_kd this).1 = 16) : qm_B X (jf_Teller_wordOf this p1 p2) 0 [some (.ref (qx_ad X this)), some (.int p1), some (.int p2), none, none] [] (fun r σ1 => r = r0 ∧ σ1 = σ0) := by
  unfold jf_Teller_wordOf
  refine qb_iconst hX 0 (-1) rfl (by decide) ?_
  refine qb_istore_n hX 1 ([some (.ref (qx_ad X this)), some (.int p1), some (.int p2), some (.int (-1)), none]) rfl (by decide) rfl ?_
  refine qb_iconst hX 2 0 rfl (by decide) ?_
  refine qb_istore hX 3 ([some (.ref (qx_ad X this)), some (.int p1), some (.int p2), some (.int (-1)), some (.int 0)]) rfl (by decide) rfl ?_
  refine qb_join2 51 (fun s1 => [none, none, none, none, none]) (fun s1 => []) ?_ ?_
  ·
    refine qb_loopw (((-1), 0)) (fun s2 => [some (.ref (qx_ad X this)), some (.int p1), some (.int p2), some (.int s2.1), some (.int s2.2)]) (qw_s (qw_s (qw_s (qw_s (qw_s (qw_0)))))) (fun s2 => ?_)
    refine qb_iload hX 4 rfl rfl ?_
    refine qb_ldcS hX 5 408 rfl ks_Teller_94 ?_
    refine qb_scal hX 6 rfl cv_Teller_96 (jm_String_length (qk_GI hX) 408  (rfl : (qm_kd 408).1 = 6)) (rfl : (qm_kd 408).1 = 6) ⟨rfl, rfl, by decide, by decide⟩ rfl (by exact Nat.le_of_ble_eq_true rfl) (fun x3 => ?_)
    refine qb_icge hX 7 51 rfl (by decide) ?_ ?_
    ·
      exact qb_exit (fun σ h => qj_wk (ρ' := [none, none, none, none, none]) (qw_n (qw_n (qw_n (qw_n (qw_n (qw_0)))))) h)
    ·
      refine qb_ldcS hX 8 408 rfl ks_Teller_94 ?_
      refine qb_iload hX 9 rfl rfl ?_
      refine qb_scal hX 10 rfl cv_Teller_100 (jm_String_charAt (qk_GI hX) 408 s2.2 (rfl : (qm_kd 408).1 = 6)) (rfl : (qm_kd 408).1 = 6) ⟨rfl, rfl, by decide, by decide⟩ rfl (by exact Nat.le_of_ble_eq_true rfl) (fun x4 => ?_)
      refine qb_bipush hX 11 32 rfl (by decide) ?_
      refine qb_join2 45 (fun s5 => [some (.ref (qx_ad X this)), some (.int p1), some (.int p2), some (.int s5), some (.int s2.2)]) (fun s5 => []) ?_ ?_
      ·
        refine qb_icne hX 12 45 rfl (by decide) ?_ ?_
        ·
          exact qb_exit (fun σ h => qj_wk (ρ' := [some (.ref (qx_ad X this)), some (.int p1), some (.int p2), some (.int s2.1), some (.int s2.2)]) (qw_s (qw_s (qw_s (qw_s (qw_s (qw_0)))))) h)
        ·
          refine qb_iinc hX 13 1 (fun x6 => [some (.ref (qx_ad X this)), some (.int p1), some (.int p2), some (.int x6), some (.int s2.2)]) rfl (by decide) (by decide) rfl (fun _ => rfl) (fun x6 => ?_)
          refine qb_aload_n hX 14 rfl rfl ?_
          refine qb_iload hX 15 rfl rfl ?_
          refine qb_iconst hX 16 1 rfl (by decide) ?_
          refine qb_iadd hX 17 rfl ?_
          refine qb_iload_n hX 18 rfl rfl ?_
          refine qb_iload_n hX 19 rfl rfl ?_
          refine qb_callI hX 20 rfl cv_Teller_104 (jm_Teller_isWord (qk_GI hX) this (s2.2 + 1) p1 p2 hthis ) (ci := 6) hthis ⟨rfl, rfl, rfl, by decide, by decide⟩ rfl (by exact Nat.le_of_ble_eq_true rfl) (fun x7 => ?_)
          refine qb_ifeq hX 21 45 rfl (by decide) ?_ ?_
          ·
            exact qb_exit (fun σ h => qj_wk (ρ' := [some (.ref (qx_ad X this)), some (.int p1), some (.int p2), some (.int x6), some (.int s2.2)]) (qw_s (qw_s (qw_s (qw_s (qw_s (qw_0)))))) h)
          ·
            refine qb_iload_n hX 22 rfl rfl ?_
            exact qb_iret hX 23 rfl hR (fun _ h => h)
      · intro s5
        refine qb_iinc hX 24 1 (fun x8 => [some (.ref (qx_ad X this)), some (.int p1), some (.int p2), some (.int s5), some (.int x8)]) rfl (by decide) (by decide) rfl (fun _ => rfl) (fun x8 => ?_)
        exact qb_exit (fun σ h => qj_goto hX 25 rfl (by decide) (qj_wk (ρ' := [some (.ref (qx_ad X this)), some (.int p1), some (.int p2), some (.int s5), some (.int x8)]) (qw_s (qw_s (qw_s (qw_s (qw_s (qw_0)))))) h))
  · intro s1
    refine qb_iconst hX 26 (-1) rfl (by decide) ?_
    exact qb_iret hX 27 rfl hR (fun _ h => h)
theorem jm_Teller_wordOf {l : Launch} {G : qm_G} (hG : qm_GI G) (this : Nat) (p1 : Int32) (p2 : Int32) (hthis : (qm_kd this).1 = 16) : qm_MI l G jy_Teller_wordOf prog_8_method_6_code 5 (some .int) 6 131 [.ref (G.1 this), .int p1, .int p2] (jf_Teller_wordOf this p1 p2) :=
  qm_metI (by decide +kernel) jd_Teller_wordOf (fun v hv => by simp only [List.mem_cons, List.not_mem_nil, or_false] at hv; rcases hv with rfl | rfl | rfl <;> rfl) (by exact Nat.le_of_ble_eq_true rfl) hG rfl (fun X hl hg hX r0 σ0 hR => by subst hl; subst hg; exact jb_Teller_wordOf hX hR this p1 p2 hthis)
def jl_Teller_split : List qm_I := [(0, .iconst 0, 1, 1), (1, .istore_n 1, 1, 2), (2, .iconst 0, 1, 3), (3, .istore_n 2, 1, 4), (4, .iload_n 2, 1, 5), (5, .aload_n 0, 1, 6), (6, .getfield 11, 3, 9), (9, .getfield 65, 3, 12), (12, .if_icmp .ge 145, 3, 15), (15, .iload_n 1, 1, 16), (16, .iconst 1, 1, 17), (17, .iadd, 1, 18), (18, .sipush 401, 3, 21), (21, .if_icmp .ge 136, 3, 24), (24, .aload_n 0, 1, 25), (25, .getfield 11, 3, 28), (28, .getfield 70, 3, 31), (31, .iload_n 2, 1, 32), (32, .invokestatic 73, 3, 35), (35, .istore_n 3, 1, 36), (36, .iinc 2 1, 3, 39), (39, .iload_n 3, 1, 40), (40, .bipush 32, 2, 42), (42, .if_icmp .eq 112, 3, 45), (45, .iload_n 3, 1, 46), (46, .invokestatic 77, 3, 49), (49, .istore 4, 2, 51), (51, .aload_n 0, 1, 52), (52, .getfield 26, 3, 55), (55, .iload_n 1, 1, 56), (56, .iload_n 2, 1, 57), (57, .iconst 1, 1, 58), (58, .isub, 1, 59), (59, .iastore, 1, 60), (60, .aload_n 0, 1, 61), (61, .getfield 22, 3, 64), (64, .iload_n 1, 1, 65), (65, .iload 4, 2, 67), (67, .iastore, 1, 68), (68, .iload 4, 2, 70), (70, .ifCond .eq 9, 3, 73), (73, .iload 4, 2, 75), (75, .iconst 1, 1, 76), (76, .if_icmp .ne 39, 3, 79), (79, .iload_n 2, 1, 80), (80, .aload_n 0, 1, 81), (81, .getfield 11, 3, 84), (84, .getfield 65, 3, 87), (87, .if_icmp .ge 28, 3, 90), (90, .aload_n 0, 1, 91), (91, .getfield 11, 3, 94), (94, .getfield 70, 3, 97), (97, .iload_n 2, 1, 98), (98, .invokestatic 73, 3, 101), (101, .invokestatic 77, 3, 104), (104, .iload 4, 2, 106), (106, .if_icmp .ne 9, 3, 109), (109, .iinc 2 1, 3, 112), (112, .goto (-44), 3, 115), (115, .aload_n 0, 1, 116), (116, .getfield 29, 3, 119), (119, .iload_n 1, 1, 120), (120, .iload 4, 2, 122), (122, .ifCond .ne 17, 3, 125), (125, .aload_n 0, 1, 126), (126, .aload_n 0, 1, 127), (127, .getfield 26, 3, 130), (130, .iload_n 1, 1, 131), (131, .iaload, 1, 132), (132, .iload_n 2, 1, 133), (133, .invokevirtual 81, 3, 136), (136, .goto 14, 3, 139), (139, .aload_n 0, 1, 140), (140, .aload_n 0, 1, 141), (141, .getfield 26, 3, 144), (144, .iload_n 1, 1, 145), (145, .iaload, 1, 146), (146, .iload_n 2, 1, 147), (147, .invokevirtual 85, 3, 150), (150, .iastore, 1, 151), (151, .iinc 1 1, 3, 154), (154, .goto (-150), 3, 157), (157, .aload_n 0, 1, 158), (158, .getfield 22, 3, 161), (161, .iload_n 1, 1, 162), (162, .iconst 4, 1, 163), (163, .iastore, 1, 164), (164, .aload_n 0, 1, 165), (165, .getfield 26, 3, 168), (168, .iload_n 1, 1, 169), (169, .aload_n 0, 1, 170), (170, .getfield 11, 3, 173), (173, .getfield 65, 3, 176), (176, .iastore, 1, 177), (177, .return_, 1, 178)]
theorem jd_Teller_split : qm_D prog_8_method_3_code jl_Teller_split := qm_D_of (by decide +kernel)
noncomputable def jf_Teller_split (this : Nat) : qm_M Unit :=
  mB (α := Int32) (
    mW (S := Int32 × Int32) (α := Int32) (fun s2 =>
      mB (mGt (qm_rf this 0) 1) fun x3 =>
      if x3 ≤ s2.2 then
        mP (Sum.inr s2.1)
      else
        if 401 ≤ (s2.1 + 1) then
          mP (Sum.inr s2.1)
        else
          mB (jf_Top_at (qm_rf (qm_rf this 0) 0) s2.2) fun x4 =>
          mB (mP (s2.2 + 1)) fun x5 =>
          mB (α := Int32 × Int32) (
            if x4 = 32 then
              mP (s2.1, x5)
            else
              mB (jf_Teller_signOf x4) fun x7 =>
              mB (mSt (qm_rf this 3) s2.1 (x5 - 1)) fun _ =>
              mB (mSt (qm_rf this 2) s2.1 x7) fun _ =>
              mB (α := Int32) (
                mW (S := Int32) (α := Int32) (fun s9 =>
                  mB (α := (Unit ⊕ (Int32 ⊕ Int32))) (
                    if x7 = 0 then
                      mP (Sum.inl ())
                    else
                      if ¬ x7 = 1 then
                        mP (Sum.inr (Sum.inr s9))
                      else
                        mP (Sum.inl ())) (Sum.elim (fun s10 =>
                    mB (mGt (qm_rf this 0) 1) fun x11 =>
                    if x11 ≤ s9 then
                      mP (Sum.inr s9)
                    else
                      mB (jf_Top_at (qm_rf (qm_rf this 0) 0) s9) fun x12 =>
                      mB (jf_Teller_signOf x12) fun x13 =>
                      if ¬ x13 = x7 then
                        mP (Sum.inr s9)
                      else
                        mB (mP (s9 + 1)) fun x14 =>
                        mP (Sum.inl x14)) mP)) x5) fun s8 =>
              mB (α := Int32) (
                if ¬ x7 = 0 then
                  mB (mLd (qm_rf this 3) s2.1) fun x16 =>
                  mB (jf_Teller_numberOf this x16 s8) fun x17 =>
                  mP x17
                else
                  mB (mLd (qm_rf this 3) s2.1) fun x18 =>
                  mB (jf_Teller_wordOf this x18 s8) fun x19 =>
                  mP x19) fun s15 =>
              mB (mSt (qm_rf this 4) s2.1 s15) fun _ =>
              mB (mP (s2.1 + 1)) fun x20 =>
              mP (x20, s8)) fun s6 =>
          mP (Sum.inl (s6.1, s6.2))) (0, 0)) fun s1 =>
  mB (mSt (qm_rf this 2) s1 4) fun _ =>
  mB (mGt (qm_rf this 0) 1) fun x21 =>
  mB (mSt (qm_rf this 3) s1 x21) fun _ =>
  mP ()
set_option maxRecDepth 20000 in
set_option maxHeartbeats 4000000 in
theorem jb_Teller_split {X : qm_X} (hX : qm_ok X qr_Teller prog_8_method_3_code 5 7 155 jl_Teller_split) {σ0 : qm_Mem} (hR : qm_RV X σ0) (this : Nat) (hthis : (qm_kd this).1 = 16) : qm_B X (jf_Teller_split this) 0 [some (.ref (qx_ad X this)), none, none, none, none] [] (fun _ σ1 => σ1 = σ0) := by
  unfold jf_Teller_split
  refine qb_iconst hX 0 0 rfl (by decide) ?_
  refine qb_istore_n hX 1 ([some (.ref (qx_ad X this)), some (.int 0), none, none, none]) rfl (by decide) rfl ?_
  refine qb_iconst hX 2 0 rfl (by decide) ?_
  refine qb_istore_n hX 3 ([some (.ref (qx_ad X this)), some (.int 0), some (.int 0), none, none]) rfl (by decide) rfl ?_
  refine qb_join 157 (fun s1 => [some (.ref (qx_ad X this)), some (.int s1), none, none, none]) (fun s1 => []) ?_ ?_
  ·
    refine qb_loopw ((0, 0)) (fun s2 => [some (.ref (qx_ad X this)), some (.int s2.1), some (.int s2.2), none, none]) (qw_s (qw_s (qw_s (qw_n (qw_n (qw_0)))))) (fun s2 => ?_)
    refine qb_iload_n hX 4 rfl rfl ?_
    refine qb_aload_n hX 5 rfl rfl ?_
    refine qb_getR hX 6 rfl fl_Teller_11 hthis rfl ?_
    refine qb_get hX 7 rfl fl_Teller_65 (kf_Teller_0 hthis) rfl (fun x3 => ?_)
    refine qb_icge hX 8 157 rfl (by decide) ?_ ?_
    ·
      exact qb_exit (fun σ h => qj_wk (ρ' := [some (.ref (qx_ad X this)), some (.int s2.1), none, none, none]) (qw_s (qw_s (qw_n (qw_n (qw_n (qw_0)))))) h)
    ·
      refine qb_iload_n hX 9 rfl rfl ?_
      refine qb_iconst hX 10 1 rfl (by decide) ?_
      refine qb_iadd hX 11 rfl ?_
      refine qb_sipush hX 12 401 rfl (by decide) ?_
      refine qb_icge hX 13 157 rfl (by decide) ?_ ?_
      ·
        exact qb_exit (fun σ h => qj_wk (ρ' := [some (.ref (qx_ad X this)), some (.int s2.1), none, none, none]) (qw_s (qw_s (qw_n (qw_n (qw_n (qw_0)))))) h)
      ·
        refine qb_aload_n hX 14 rfl rfl ?_
        refine qb_getR hX 15 rfl fl_Teller_11 hthis rfl ?_
        refine qb_getR hX 16 rfl fl_Teller_70 (kf_Teller_0 hthis) rfl ?_
        refine qb_iload_n hX 17 rfl rfl ?_
        refine qb_calNI hX 18 rfl cv_Teller_73 (jm_Top_at (qk_GI hX) (qm_rf (qm_rf this 0) 0) s2.2 (kf_Tape_0 (kf_Teller_0 hthis))) ⟨rfl, by decide, by decide⟩ rfl (by exact Nat.le_of_ble_eq_true rfl) (fun x4 => ?_)
        refine qb_istore_n hX 19 ([some (.ref (qx_ad X this)), some (.int s2.1), some (.int s2.2), some (.int x4), none]) rfl (by decide) rfl ?_
        refine qb_iinc hX 20 1 (fun x5 => [some (.ref (qx_ad X this)), some (.int s2.1), some (.int x5), some (.int x4), none]) rfl (by decide) (by decide) rfl (fun _ => rfl) (fun x5 => ?_)
        refine qb_iload_n hX 21 rfl rfl ?_
        refine qb_bipush hX 22 32 rfl (by decide) ?_
        refine qb_join 154 (fun s6 => [some (.ref (qx_ad X this)), some (.int s6.1), some (.int s6.2), none, none]) (fun s6 => []) ?_ ?_
        ·
          refine qb_iceq hX 23 154 rfl (by decide) ?_ ?_
          ·
            exact qb_exit (fun σ h => qj_wk (ρ' := [some (.ref (qx_ad X this)), some (.int s2.1), some (.int x5), none, none]) (qw_s (qw_s (qw_s (qw_n (qw_n (qw_0)))))) h)
          ·
            refine qb_iload_n hX 24 rfl rfl ?_
            refine qb_calSI hX 25 rfl cv_Teller_77 (jm_Teller_signOf (qk_GI hX) x4 ) ⟨rfl, by decide, by decide⟩ rfl (by exact Nat.le_of_ble_eq_true rfl) (fun x7 => ?_)
            refine qb_istore hX 26 ([some (.ref (qx_ad X this)), some (.int s2.1), some (.int x5), some (.int x4), some (.int x7)]) rfl (by decide) rfl ?_
            refine qb_aload_n hX 27 rfl rfl ?_
            refine qb_getR hX 28 rfl fl_Teller_26 hthis rfl ?_
            refine qb_iload_n hX 29 rfl rfl ?_
            refine qb_iload_n hX 30 rfl rfl ?_
            refine qb_iconst hX 31 1 rfl (by decide) ?_
            refine qb_isub hX 32 rfl ?_
            refine qb_iast hX 33 rfl (kf_Teller_3 hthis) ?_
            refine qb_aload_n hX 34 rfl rfl ?_
            refine qb_getR hX 35 rfl fl_Teller_22 hthis rfl ?_
            refine qb_iload_n hX 36 rfl rfl ?_
            refine qb_iload hX 37 rfl rfl ?_
            refine qb_iast hX 38 rfl (kf_Teller_2 hthis) ?_
            refine qb_join 115 (fun s8 => [some (.ref (qx_ad X this)), some (.int s2.1), some (.int s8), none, some (.int x7)]) (fun s8 => []) ?_ ?_
            ·
              refine qb_loopw (x5) (fun s9 => [some (.ref (qx_ad X this)), some (.int s2.1), some (.int s9), none, some (.int x7)]) (qw_s (qw_s (qw_s (qw_n (qw_s (qw_0)))))) (fun s9 => ?_)
              refine qb_iload hX 39 rfl rfl ?_
              refine qb_join2 79 (fun s10 => [some (.ref (qx_ad X this)), some (.int s2.1), some (.int s9), none, some (.int x7)]) (fun s10 => []) ?_ ?_
              ·
                refine qb_ifeq hX 40 79 rfl (by decide) ?_ ?_
                ·
                  exact qb_exit (fun σ h => qj_wk (ρ' := [some (.ref (qx_ad X this)), some (.int s2.1), some (.int s9), none, some (.int x7)]) (qw_s (qw_s (qw_s (qw_n (qw_s (qw_0)))))) h)
                ·
                  refine qb_iload hX 41 rfl rfl ?_
                  refine qb_iconst hX 42 1 rfl (by decide) ?_
                  refine qb_icne hX 43 115 rfl (by decide) ?_ ?_
                  ·
                    exact qb_exit (fun σ h => qj_wk (ρ' := [some (.ref (qx_ad X this)), some (.int s2.1), some (.int s9), none, some (.int x7)]) (qw_s (qw_s (qw_s (qw_n (qw_s (qw_0)))))) h)
                  ·
                    exact qb_exit (fun σ h => qj_wk (ρ' := [some (.ref (qx_ad X this)), some (.int s2.1), some (.int s9), none, some (.int x7)]) (qw_s (qw_s (qw_s (qw_n (qw_s (qw_0)))))) h)
              · intro s10
                refine qb_iload_n hX 44 rfl rfl ?_
                refine qb_aload_n hX 45 rfl rfl ?_
                refine qb_getR hX 46 rfl fl_Teller_11 hthis rfl ?_
                refine qb_get hX 47 rfl fl_Teller_65 (kf_Teller_0 hthis) rfl (fun x11 => ?_)
                refine qb_icge hX 48 115 rfl (by decide) ?_ ?_
                ·
                  exact qb_exit (fun σ h => qj_wk (ρ' := [some (.ref (qx_ad X this)), some (.int s2.1), some (.int s9), none, some (.int x7)]) (qw_s (qw_s (qw_s (qw_n (qw_s (qw_0)))))) h)
                ·
                  refine qb_aload_n hX 49 rfl rfl ?_
                  refine qb_getR hX 50 rfl fl_Teller_11 hthis rfl ?_
                  refine qb_getR hX 51 rfl fl_Teller_70 (kf_Teller_0 hthis) rfl ?_
                  refine qb_iload_n hX 52 rfl rfl ?_
                  refine qb_calNI hX 53 rfl cv_Teller_73 (jm_Top_at (qk_GI hX) (qm_rf (qm_rf this 0) 0) s9 (kf_Tape_0 (kf_Teller_0 hthis))) ⟨rfl, by decide, by decide⟩ rfl (by exact Nat.le_of_ble_eq_true rfl) (fun x12 => ?_)
                  refine qb_calSI hX 54 rfl cv_Teller_77 (jm_Teller_signOf (qk_GI hX) x12 ) ⟨rfl, by decide, by decide⟩ rfl (by exact Nat.le_of_ble_eq_true rfl) (fun x13 => ?_)
                  refine qb_iload hX 55 rfl rfl ?_
                  refine qb_icne hX 56 115 rfl (by decide) ?_ ?_
                  ·
                    exact qb_exit (fun σ h => qj_wk (ρ' := [some (.ref (qx_ad X this)), some (.int s2.1), some (.int s9), none, some (.int x7)]) (qw_s (qw_s (qw_s (qw_n (qw_s (qw_0)))))) h)
                  ·
                    refine qb_iinc hX 57 1 (fun x14 => [some (.ref (qx_ad X this)), some (.int s2.1), some (.int x14), none, some (.int x7)]) rfl (by decide) (by decide) rfl (fun _ => rfl) (fun x14 => ?_)
                    exact qb_exit (fun σ h => qj_goto hX 58 rfl (by decide) (qj_wk (ρ' := [some (.ref (qx_ad X this)), some (.int s2.1), some (.int x14), none, some (.int x7)]) (qw_s (qw_s (qw_s (qw_n (qw_s (qw_0)))))) h))
            · intro s8
              refine qb_aload_n hX 59 rfl rfl ?_
              refine qb_getR hX 60 rfl fl_Teller_29 hthis rfl ?_
              refine qb_iload_n hX 61 rfl rfl ?_
              refine qb_iload hX 62 rfl rfl ?_
              refine qb_join 150 (fun s15 => [some (.ref (qx_ad X this)), some (.int s2.1), some (.int s8), none, none]) (fun s15 => [.int s15, .int s2.1, .ref (qx_ad X (qm_rf this 4))]) ?_ ?_
              ·
                refine qb_ifne hX 63 139 rfl (by decide) ?_ ?_
                ·
                  refine qb_aload_n hX 72 rfl rfl ?_
                  refine qb_aload_n hX 73 rfl rfl ?_
                  refine qb_getR hX 74 rfl fl_Teller_26 hthis rfl ?_
                  refine qb_iload_n hX 75 rfl rfl ?_
                  refine qb_iald hX 76 rfl (kf_Teller_3 hthis) (fun x16 => ?_)
                  refine qb_iload_n hX 77 rfl rfl ?_
                  refine qb_callI hX 78 rfl cv_Teller_85 (jm_Teller_numberOf (qk_GI hX) this x16 s8 hthis ) (ci := 6) hthis ⟨rfl, rfl, rfl, by decide, by decide⟩ rfl (by exact Nat.le_of_ble_eq_true rfl) (fun x17 => ?_)
                  exact qb_exit (fun σ h => qj_wk (ρ' := [some (.ref (qx_ad X this)), some (.int s2.1), some (.int s8), none, none]) (qw_s (qw_s (qw_s (qw_n (qw_n (qw_0)))))) h)
                ·
                  refine qb_aload_n hX 64 rfl rfl ?_
                  refine qb_aload_n hX 65 rfl rfl ?_
                  refine qb_getR hX 66 rfl fl_Teller_26 hthis rfl ?_
                  refine qb_iload_n hX 67 rfl rfl ?_
                  refine qb_iald hX 68 rfl (kf_Teller_3 hthis) (fun x18 => ?_)
                  refine qb_iload_n hX 69 rfl rfl ?_
                  refine qb_callI hX 70 rfl cv_Teller_81 (jm_Teller_wordOf (qk_GI hX) this x18 s8 hthis ) (ci := 6) hthis ⟨rfl, rfl, rfl, by decide, by decide⟩ rfl (by exact Nat.le_of_ble_eq_true rfl) (fun x19 => ?_)
                  exact qb_exit (fun σ h => qj_goto hX 71 rfl (by decide) (qj_wk (ρ' := [some (.ref (qx_ad X this)), some (.int s2.1), some (.int s8), none, none]) (qw_s (qw_s (qw_s (qw_n (qw_n (qw_0)))))) h))
              · intro s15
                refine qb_iast hX 79 rfl (kf_Teller_4 hthis) ?_
                refine qb_iinc hX 80 1 (fun x20 => [some (.ref (qx_ad X this)), some (.int x20), some (.int s8), none, none]) rfl (by decide) (by decide) rfl (fun _ => rfl) (fun x20 => ?_)
                exact qb_exit (fun σ h => qj_wk (ρ' := [some (.ref (qx_ad X this)), some (.int x20), some (.int s8), none, none]) (qw_s (qw_s (qw_s (qw_n (qw_n (qw_0)))))) h)
        · intro s6
          exact qb_exit (fun σ h => qj_goto hX 81 rfl (by decide) (qj_wk (ρ' := [some (.ref (qx_ad X this)), some (.int s6.1), some (.int s6.2), none, none]) (qw_s (qw_s (qw_s (qw_n (qw_n (qw_0)))))) h))
  · intro s1
    refine qb_aload_n hX 82 rfl rfl ?_
    refine qb_getR hX 83 rfl fl_Teller_22 hthis rfl ?_
    refine qb_iload_n hX 84 rfl rfl ?_
    refine qb_iconst hX 85 4 rfl (by decide) ?_
    refine qb_iast hX 86 rfl (kf_Teller_2 hthis) ?_
    refine qb_aload_n hX 87 rfl rfl ?_
    refine qb_getR hX 88 rfl fl_Teller_26 hthis rfl ?_
    refine qb_iload_n hX 89 rfl rfl ?_
    refine qb_aload_n hX 90 rfl rfl ?_
    refine qb_getR hX 91 rfl fl_Teller_11 hthis rfl ?_
    refine qb_get hX 92 rfl fl_Teller_65 (kf_Teller_0 hthis) rfl (fun x21 => ?_)
    refine qb_iast hX 93 rfl (kf_Teller_3 hthis) ?_
    exact qb_vret hX 94 rfl hR (fun _ h => h)
theorem jm_Teller_split {l : Launch} {G : qm_G} (hG : qm_GI G) (this : Nat) (hthis : (qm_kd this).1 = 16) : qm_MV l G jy_Teller_split prog_8_method_3_code 5 7 155 [.ref (G.1 this)] (jf_Teller_split this) :=
  qm_metV (by decide +kernel) jd_Teller_split (fun v hv => by simp only [List.mem_cons, List.not_mem_nil, or_false] at hv; rcases hv with rfl <;> rfl) (by exact Nat.le_of_ble_eq_true rfl) hG (fun X hl hg hX σ0 hR => by subst hl; subst hg; exact jb_Teller_split hX hR this hthis)
def jl_Teller_read : List qm_I := [(0, .aload_n 0, 1, 1), (1, .getfield 18, 3, 4), (4, .invokevirtual 32, 3, 7), (7, .aload_n 0, 1, 8), (8, .invokevirtual 35, 3, 11), (11, .aload_n 0, 1, 12), (12, .iconst 0, 1, 13), (13, .putfield 38, 3, 16), (16, .aload_n 0, 1, 17), (17, .iconst (-1), 1, 18), (18, .putfield 42, 3, 21), (21, .aload_n 0, 1, 22), (22, .iconst 0, 1, 23), (23, .putfield 45, 3, 26), (26, .aload_n 0, 1, 27), (27, .invokevirtual 48, 3, 30), (30, .iconst 4, 1, 31), (31, .if_icmp .eq 7, 3, 34), (34, .iconst 1, 1, 35), (35, .goto 4, 3, 38), (38, .iconst 0, 1, 39), (39, .istore_n 1, 1, 40), (40, .iconst 0, 1, 41), (41, .istore_n 2, 1, 42), (42, .iload_n 1, 1, 43), (43, .ifCond .eq 79, 3, 46), (46, .iload_n 2, 1, 47), (47, .sipush 401, 3, 50), (50, .if_icmp .ge 72, 3, 53), (53, .aload_n 0, 1, 54), (54, .invokevirtual 52, 3, 57), (57, .aload_n 0, 1, 58), (58, .getfield 42, 3, 61), (61, .iconst (-1), 1, 62), (62, .if_icmp .ne 15, 3, 65), (65, .aload_n 0, 1, 66), (66, .invokevirtual 48, 3, 69), (69, .iconst 4, 1, 70), (70, .if_icmp .eq 7, 3, 73), (73, .iconst 1, 1, 74), (74, .goto 4, 3, 77), (77, .iconst 0, 1, 78), (78, .istore_n 1, 1, 79), (79, .iload_n 1, 1, 80), (80, .ifCond .eq 22, 3, 83), (83, .aload_n 0, 1, 84), (84, .invokevirtual 48, 3, 87), (87, .iconst 2, 1, 88), (88, .if_icmp .eq 14, 3, 91), (91, .aload_n 0, 1, 92), (92, .aload_n 0, 1, 93), (93, .invokevirtual 55, 3, 96), (96, .iconst 1, 1, 97), (97, .invokevirtual 58, 3, 100), (100, .iconst 0, 1, 101), (101, .istore_n 1, 1, 102), (102, .iload_n 1, 1, 103), (103, .ifCond .eq 13, 3, 106), (106, .aload_n 0, 1, 107), (107, .dup, 1, 108), (108, .getfield 38, 3, 111), (111, .iconst 1, 1, 112), (112, .iadd, 1, 113), (113, .putfield 38, 3, 116), (116, .iinc 2 1, 3, 119), (119, .goto (-77), 3, 122), (122, .aload_n 0, 1, 123), (123, .getfield 42, 3, 126), (126, .iconst (-1), 1, 127), (127, .if_icmp .ne 13, 3, 130), (130, .aload_n 0, 1, 131), (131, .getfield 18, 3, 134), (134, .invokevirtual 62, 3, 137), (137, .goto 10, 3, 140), (140, .bipush (-2), 2, 142), (142, .aload_n 0, 1, 143), (143, .getfield 42, 3, 146), (146, .isub, 1, 147), (147, .ireturn, 1, 148)]
theorem jd_Teller_read : qm_D prog_8_method_2_code jl_Teller_read := qm_D_of (by decide +kernel)
noncomputable def jf_Teller_read (this : Nat) : qm_M Int32 :=
  mB (jf_Run_clear (qm_rf this 1)) fun _ =>
  mB (jf_Teller_split this) fun _ =>
  mB (mPt this 5 0) fun _ =>
  mB (mPt this 6 (-1)) fun _ =>
  mB (mPt this 7 0) fun _ =>
  mB (jf_Teller_sign this) fun x1 =>
  mB (α := Int32) (
    if x1 = 4 then
      mP 0
    else
      mP 1) fun s2 =>
  mB (α := Unit) (
    mW (S := Int32 × Int32) (α := Unit) (fun s4 =>
      if s4.1 = 0 then
        mP (Sum.inr ())
      else
        if 401 ≤ s4.2 then
          mP (Sum.inr ())
        else
          mB (jf_Teller_readPart this) fun _ =>
          mB (mGt this 6) fun x5 =>
          mB (α := Int32) (
            mB (α := (Unit ⊕ Int32)) (
              if ¬ x5 = (-1) then
                mP (Sum.inl ())
              else
                mB (jf_Teller_sign this) fun x8 =>
                if x8 = 4 then
                  mP (Sum.inl ())
                else
                  mP (Sum.inr 1)) (Sum.elim (fun s7 =>
              mP 0) mP)) fun s6 =>
          mB (α := Int32) (
            if s6 = 0 then
              mP s6
            else
              mB (jf_Teller_sign this) fun x10 =>
              if x10 = 2 then
                mP s6
              else
                mB (jf_Teller_place this) fun x11 =>
                mB (jf_Teller_wrong this x11 1) fun _ =>
                mP 0) fun s9 =>
          mB (α := Unit) (
            if s9 = 0 then
              mP ()
            else
              mB (mGt this 5) fun x13 =>
              mB (mPt this 5 (x13 + 1)) fun _ =>
              mP ()) fun s12 =>
          mB (mP (s4.2 + 1)) fun x14 =>
          mP (Sum.inl (s9, x14))) (s2, 0)) fun s3 =>
  mB (mGt this 6) fun x15 =>
  if ¬ x15 = (-1) then
    mB (mGt this 6) fun x16 =>
    mP ((-2) - x16)
  else
    mB (jf_Run_allPieces (qm_rf this 1)) fun x17 =>
    mP x17
set_option maxRecDepth 20000 in
set_option maxHeartbeats 4000000 in
theorem jb_Teller_read {X : qm_X} (hX : qm_ok X qr_Teller prog_8_method_2_code 3 8 179 jl_Teller_read) {r0 : Int32} {σ0 : qm_Mem} (hR : qm_RI X r0 σ0 .int) (this : Nat) (hthis : (qm_kd this).1 = 16) : qm_B X (jf_Teller_read this) 0 [some (.ref (qx_ad X this)), none, none] [] (fun r σ1 => r = r0 ∧ σ1 = σ0) := by
  unfold jf_Teller_read
  refine qb_aload_n hX 0 rfl rfl ?_
  refine qb_getR hX 1 rfl fl_Teller_18 hthis rfl ?_
  refine qb_callV hX 2 rfl cv_Teller_32 (jm_Run_clear (qk_GI hX) (qm_rf this 1)  (kf_Teller_1 hthis) ) (ci := 4) (kf_Teller_1 hthis) ⟨rfl, rfl, rfl, by decide, by decide⟩ rfl (by exact Nat.le_of_ble_eq_true rfl) ?_
  refine qb_aload_n hX 3 rfl rfl ?_
  refine qb_callV hX 4 rfl cv_Teller_35 (jm_Teller_split (qk_GI hX) this  hthis ) (ci := 6) hthis ⟨rfl, rfl, rfl, by decide, by decide⟩ rfl (by exact Nat.le_of_ble_eq_true rfl) ?_
  refine qb_aload_n hX 5 rfl rfl ?_
  refine qb_iconst hX 6 0 rfl (by decide) ?_
  refine qb_put hX 7 rfl fp_Teller_38 hthis ?_
  refine qb_aload_n hX 8 rfl rfl ?_
  refine qb_iconst hX 9 (-1) rfl (by decide) ?_
  refine qb_put hX 10 rfl fp_Teller_42 hthis ?_
  refine qb_aload_n hX 11 rfl rfl ?_
  refine qb_iconst hX 12 0 rfl (by decide) ?_
  refine qb_put hX 13 rfl fp_Teller_45 hthis ?_
  refine qb_aload_n hX 14 rfl rfl ?_
  refine qb_callI hX 15 rfl cv_Teller_48 (jm_Teller_sign (qk_GI hX) this  hthis ) (ci := 6) hthis ⟨rfl, rfl, rfl, by decide, by decide⟩ rfl (by exact Nat.le_of_ble_eq_true rfl) (fun x1 => ?_)
  refine qb_iconst hX 16 4 rfl (by decide) ?_
  refine qb_join 39 (fun s2 => [some (.ref (qx_ad X this)), none, none]) (fun s2 => [.int s2]) ?_ ?_
  ·
    refine qb_iceq hX 17 38 rfl (by decide) ?_ ?_
    ·
      refine qb_iconst hX 20 0 rfl (by decide) ?_
      exact qb_exit (fun σ h => qj_wk (ρ' := [some (.ref (qx_ad X this)), none, none]) (qw_s (qw_n (qw_n (qw_0)))) h)
    ·
      refine qb_iconst hX 18 1 rfl (by decide) ?_
      exact qb_exit (fun σ h => qj_goto hX 19 rfl (by decide) (qj_wk (ρ' := [some (.ref (qx_ad X this)), none, none]) (qw_s (qw_n (qw_n (qw_0)))) h))
  · intro s2
    refine qb_istore_n hX 21 ([some (.ref (qx_ad X this)), some (.int s2), none]) rfl (by decide) rfl ?_
    refine qb_iconst hX 22 0 rfl (by decide) ?_
    refine qb_istore_n hX 23 ([some (.ref (qx_ad X this)), some (.int s2), some (.int 0)]) rfl (by decide) rfl ?_
    refine qb_join 122 (fun s3 => [some (.ref (qx_ad X this)), none, none]) (fun s3 => []) ?_ ?_
    ·
      refine qb_loopw ((s2, 0)) (fun s4 => [some (.ref (qx_ad X this)), some (.int s4.1), some (.int s4.2)]) (qw_s (qw_s (qw_s (qw_0)))) (fun s4 => ?_)
      refine qb_iload_n hX 24 rfl rfl ?_
      refine qb_ifeq hX 25 122 rfl (by decide) ?_ ?_
      ·
        exact qb_exit (fun σ h => qj_wk (ρ' := [some (.ref (qx_ad X this)), none, none]) (qw_s (qw_n (qw_n (qw_0)))) h)
      ·
        refine qb_iload_n hX 26 rfl rfl ?_
        refine qb_sipush hX 27 401 rfl (by decide) ?_
        refine qb_icge hX 28 122 rfl (by decide) ?_ ?_
        ·
          exact qb_exit (fun σ h => qj_wk (ρ' := [some (.ref (qx_ad X this)), none, none]) (qw_s (qw_n (qw_n (qw_0)))) h)
        ·
          refine qb_aload_n hX 29 rfl rfl ?_
          refine qb_callV hX 30 rfl cv_Teller_52 (jm_Teller_readPart (qk_GI hX) this  hthis ) (ci := 6) hthis ⟨rfl, rfl, rfl, by decide, by decide⟩ rfl (by exact Nat.le_of_ble_eq_true rfl) ?_
          refine qb_aload_n hX 31 rfl rfl ?_
          refine qb_get hX 32 rfl fl_Teller_42 hthis rfl (fun x5 => ?_)
          refine qb_iconst hX 33 (-1) rfl (by decide) ?_
          refine qb_join 78 (fun s6 => [some (.ref (qx_ad X this)), none, some (.int s4.2)]) (fun s6 => [.int s6]) ?_ ?_
          ·
            refine qb_join2 77 (fun s7 => [some (.ref (qx_ad X this)), none, some (.int s4.2)]) (fun s7 => []) ?_ ?_
            ·
              refine qb_icne hX 34 77 rfl (by decide) ?_ ?_
              ·
                exact qb_exit (fun σ h => qj_wk (ρ' := [some (.ref (qx_ad X this)), none, some (.int s4.2)]) (qw_s (qw_n (qw_s (qw_0)))) h)
              ·
                refine qb_aload_n hX 35 rfl rfl ?_
                refine qb_callI hX 36 rfl cv_Teller_48 (jm_Teller_sign (qk_GI hX) this  hthis ) (ci := 6) hthis ⟨rfl, rfl, rfl, by decide, by decide⟩ rfl (by exact Nat.le_of_ble_eq_true rfl) (fun x8 => ?_)
                refine qb_iconst hX 37 4 rfl (by decide) ?_
                refine qb_iceq hX 38 77 rfl (by decide) ?_ ?_
                ·
                  exact qb_exit (fun σ h => qj_wk (ρ' := [some (.ref (qx_ad X this)), none, some (.int s4.2)]) (qw_s (qw_n (qw_s (qw_0)))) h)
                ·
                  refine qb_iconst hX 39 1 rfl (by decide) ?_
                  exact qb_exit (fun σ h => qj_goto hX 40 rfl (by decide) (qj_wk (ρ' := [some (.ref (qx_ad X this)), none, some (.int s4.2)]) (qw_s (qw_n (qw_s (qw_0)))) h))
            · intro s7
              refine qb_iconst hX 41 0 rfl (by decide) ?_
              exact qb_exit (fun σ h => qj_wk (ρ' := [some (.ref (qx_ad X this)), none, some (.int s4.2)]) (qw_s (qw_n (qw_s (qw_0)))) h)
          · intro s6
            refine qb_istore_n hX 42 ([some (.ref (qx_ad X this)), some (.int s6), some (.int s4.2)]) rfl (by decide) rfl ?_
            refine qb_iload_n hX 43 rfl rfl ?_
            refine qb_join 102 (fun s9 => [some (.ref (qx_ad X this)), some (.int s9), some (.int s4.2)]) (fun s9 => []) ?_ ?_
            ·
              refine qb_ifeq hX 44 102 rfl (by decide) ?_ ?_
              ·
                exact qb_exit (fun σ h => qj_wk (ρ' := [some (.ref (qx_ad X this)), some (.int s6), some (.int s4.2)]) (qw_s (qw_s (qw_s (qw_0)))) h)
              ·
                refine qb_aload_n hX 45 rfl rfl ?_
                refine qb_callI hX 46 rfl cv_Teller_48 (jm_Teller_sign (qk_GI hX) this  hthis ) (ci := 6) hthis ⟨rfl, rfl, rfl, by decide, by decide⟩ rfl (by exact Nat.le_of_ble_eq_true rfl) (fun x10 => ?_)
                refine qb_iconst hX 47 2 rfl (by decide) ?_
                refine qb_iceq hX 48 102 rfl (by decide) ?_ ?_
                ·
                  exact qb_exit (fun σ h => qj_wk (ρ' := [some (.ref (qx_ad X this)), some (.int s6), some (.int s4.2)]) (qw_s (qw_s (qw_s (qw_0)))) h)
                ·
                  refine qb_aload_n hX 49 rfl rfl ?_
                  refine qb_aload_n hX 50 rfl rfl ?_
                  refine qb_callI hX 51 rfl cv_Teller_55 (jm_Teller_place (qk_GI hX) this  hthis ) (ci := 6) hthis ⟨rfl, rfl, rfl, by decide, by decide⟩ rfl (by exact Nat.le_of_ble_eq_true rfl) (fun x11 => ?_)
                  refine qb_iconst hX 52 1 rfl (by decide) ?_
                  refine qb_callV hX 53 rfl cv_Teller_58 (jm_Teller_wrong (qk_GI hX) this x11 1 hthis ) (ci := 6) hthis ⟨rfl, rfl, rfl, by decide, by decide⟩ rfl (by exact Nat.le_of_ble_eq_true rfl) ?_
                  refine qb_iconst hX 54 0 rfl (by decide) ?_
                  refine qb_istore_n hX 55 ([some (.ref (qx_ad X this)), some (.int 0), some (.int s4.2)]) rfl (by decide) rfl ?_
                  exact qb_exit (fun σ h => qj_wk (ρ' := [some (.ref (qx_ad X this)), some (.int 0), some (.int s4.2)]) (qw_s (qw_s (qw_s (qw_0)))) h)
            · intro s9
              refine qb_iload_n hX 56 rfl rfl ?_
              refine qb_join 116 (fun s12 => [some (.ref (qx_ad X this)), some (.int s9), some (.int s4.2)]) (fun s12 => []) ?_ ?_
              ·
                refine qb_ifeq hX 57 116 rfl (by decide) ?_ ?_
                ·
                  exact qb_exit (fun σ h => qj_wk (ρ' := [some (.ref (qx_ad X this)), some (.int s9), some (.int s4.2)]) (qw_s (qw_s (qw_s (qw_0)))) h)
                ·
                  refine qb_aload_n hX 58 rfl rfl ?_
                  refine qb_dup hX 59 rfl rfl ?_
                  refine qb_get hX 60 rfl fl_Teller_38 hthis rfl (fun x13 => ?_)
                  refine qb_iconst hX 61 1 rfl (by decide) ?_
                  refine qb_iadd hX 62 rfl ?_
                  refine qb_put hX 63 rfl fp_Teller_38 hthis ?_
                  exact qb_exit (fun σ h => qj_wk (ρ' := [some (.ref (qx_ad X this)), some (.int s9), some (.int s4.2)]) (qw_s (qw_s (qw_s (qw_0)))) h)
              · intro s12
                refine qb_iinc hX 64 1 (fun x14 => [some (.ref (qx_ad X this)), some (.int s9), some (.int x14)]) rfl (by decide) (by decide) rfl (fun _ => rfl) (fun x14 => ?_)
                exact qb_exit (fun σ h => qj_goto hX 65 rfl (by decide) (qj_wk (ρ' := [some (.ref (qx_ad X this)), some (.int s9), some (.int x14)]) (qw_s (qw_s (qw_s (qw_0)))) h))
    · intro s3
      refine qb_aload_n hX 66 rfl rfl ?_
      refine qb_get hX 67 rfl fl_Teller_42 hthis rfl (fun x15 => ?_)
      refine qb_iconst hX 68 (-1) rfl (by decide) ?_
      refine qb_icne hX 69 140 rfl (by decide) ?_ ?_
      ·
        refine qb_bipush hX 74 (-2) rfl (by decide) ?_
        refine qb_aload_n hX 75 rfl rfl ?_
        refine qb_get hX 76 rfl fl_Teller_42 hthis rfl (fun x16 => ?_)
        refine qb_isub hX 77 rfl ?_
        exact qb_iret hX 78 rfl hR (fun _ h => h)
      ·
        refine qb_aload_n hX 70 rfl rfl ?_
        refine qb_getR hX 71 rfl fl_Teller_18 hthis rfl ?_
        refine qb_callI hX 72 rfl cv_Teller_62 (jm_Run_allPieces (qk_GI hX) (qm_rf this 1)  (kf_Teller_1 hthis) ) (ci := 4) (kf_Teller_1 hthis) ⟨rfl, rfl, rfl, by decide, by decide⟩ rfl (by exact Nat.le_of_ble_eq_true rfl) (fun x17 => ?_)
        refine qb_goto hX 73 (tgt := 147) rfl (by decide) ?_
        exact qb_iret hX 78 rfl hR (fun _ h => h)
theorem jm_Teller_read {l : Launch} {G : qm_G} (hG : qm_GI G) (this : Nat) (hthis : (qm_kd this).1 = 16) : qm_MI l G jy_Teller_read prog_8_method_2_code 3 (some .int) 8 179 [.ref (G.1 this)] (jf_Teller_read this) :=
  qm_metI (by decide +kernel) jd_Teller_read (fun v hv => by simp only [List.mem_cons, List.not_mem_nil, or_false] at hv; rcases hv with rfl <;> rfl) (by exact Nat.le_of_ble_eq_true rfl) hG rfl (fun X hl hg hX r0 σ0 hR => by subst hl; subst hg; exact jb_Teller_read hX hR this hthis)
def jl_Top_tell : List qm_I := [(0, .aload_n 0, 1, 1), (1, .getfield 28, 3, 4), (4, .invokevirtual 72, 3, 7), (7, .istore_n 1, 1, 8), (8, .aload_n 0, 1, 9), (9, .getfield 19, 3, 12), (12, .iconst 0, 1, 13), (13, .putfield 64, 3, 16), (16, .iload_n 1, 1, 17), (17, .ifCond .lt 29, 3, 20), (20, .aload_n 0, 1, 21), (21, .getfield 12, 3, 24), (24, .aload_n 0, 1, 25), (25, .getfield 28, 3, 28), (28, .getfield 76, 3, 31), (31, .invokevirtual 79, 3, 34), (34, .aload_n 0, 1, 35), (35, .getfield 35, 3, 38), (38, .iconst 0, 1, 39), (39, .putfield 83, 3, 42), (42, .aload_n 0, 1, 43), (43, .invokevirtual 86, 3, 46), (46, .iload_n 1, 1, 47), (47, .ireturn, 1, 48)]
theorem jd_Top_tell : qm_D prog_1_method_4_code jl_Top_tell := qm_D_of (by decide +kernel)
noncomputable def jf_Top_tell (this : Nat) : qm_M Int32 :=
  mB (jf_Teller_read (qm_rf this 2)) fun x1 =>
  mB (mPt (qm_rf this 1) 1 0) fun _ =>
  if x1 < 0 then
    mP x1
  else
    mB (jf_Run_copyFrom (qm_rf this 0) (qm_rf (qm_rf this 2) 1)) fun _ =>
    mB (mPt (qm_rf this 3) 2 0) fun _ =>
    mB (jf_Top_changed this) fun _ =>
    mP x1
set_option maxRecDepth 20000 in
set_option maxHeartbeats 4000000 in
theorem jb_Top_tell {X : qm_X} (hX : qm_ok X qr_Top prog_1_method_4_code 2 9 201 jl_Top_tell) {r0 : Int32} {σ0 : qm_Mem} (hR : qm_RI X r0 σ0 .int) (this : Nat) (hthis : (qm_kd this).1 = 18) : qm_B X (jf_Top_tell this) 0 [some (.ref (qx_ad X this)), none] [] (fun r σ1 => r = r0 ∧ σ1 = σ0) := by
  unfold jf_Top_tell
  refine qb_aload_n hX 0 rfl rfl ?_
  refine qb_getR hX 1 rfl fl_Top_28 hthis rfl ?_
  refine qb_callI hX 2 rfl cv_Top_72 (jm_Teller_read (qk_GI hX) (qm_rf this 2)  (kf_Top_2 hthis) ) (ci := 6) (kf_Top_2 hthis) ⟨rfl, rfl, rfl, by decide, by decide⟩ rfl (by exact Nat.le_of_ble_eq_true rfl) (fun x1 => ?_)
  refine qb_istore_n hX 3 ([some (.ref (qx_ad X this)), some (.int x1)]) rfl (by decide) rfl ?_
  refine qb_aload_n hX 4 rfl rfl ?_
  refine qb_getR hX 5 rfl fl_Top_19 hthis rfl ?_
  refine qb_iconst hX 6 0 rfl (by decide) ?_
  refine qb_put hX 7 rfl fp_Top_64 (kf_Top_1 hthis) ?_
  refine qb_iload_n hX 8 rfl rfl ?_
  refine qb_iflt hX 9 46 rfl (by decide) ?_ ?_
  ·
    refine qb_iload_n hX 22 rfl rfl ?_
    exact qb_iret hX 23 rfl hR (fun _ h => h)
  ·
    refine qb_aload_n hX 10 rfl rfl ?_
    refine qb_getR hX 11 rfl fl_Top_12 hthis rfl ?_
    refine qb_aload_n hX 12 rfl rfl ?_
    refine qb_getR hX 13 rfl fl_Top_28 hthis rfl ?_
    refine qb_getR hX 14 rfl fl_Top_76 (kf_Top_2 hthis) rfl ?_
    refine qb_callV hX 15 rfl cv_Top_79 (jm_Run_copyFrom (qk_GI hX) (qm_rf this 0) (qm_rf (qm_rf this 2) 1) (kf_Top_0 hthis) (kf_Teller_1 (kf_Top_2 hthis))) (ci := 4) (kf_Top_0 hthis) ⟨rfl, rfl, rfl, by decide, by decide⟩ rfl (by exact Nat.le_of_ble_eq_true rfl) ?_
    refine qb_aload_n hX 16 rfl rfl ?_
    refine qb_getR hX 17 rfl fl_Top_35 hthis rfl ?_
    refine qb_iconst hX 18 0 rfl (by decide) ?_
    refine qb_put hX 19 rfl fp_Top_83 (kf_Top_3 hthis) ?_
    refine qb_aload_n hX 20 rfl rfl ?_
    refine qb_callV hX 21 rfl cv_Top_86 (jm_Top_changed (qk_GI hX) this  hthis ) (ci := 8) hthis ⟨rfl, rfl, rfl, by decide, by decide⟩ rfl (by exact Nat.le_of_ble_eq_true rfl) ?_
    refine qb_iload_n hX 22 rfl rfl ?_
    exact qb_iret hX 23 rfl hR (fun _ h => h)
theorem jm_Top_tell {l : Launch} {G : qm_G} (hG : qm_GI G) (this : Nat) (hthis : (qm_kd this).1 = 18) : qm_MI l G jy_Top_tell prog_1_method_4_code 2 (some .int) 9 201 [.ref (G.1 this)] (jf_Top_tell this) :=
  qm_metI (by decide +kernel) jd_Top_tell (fun v hv => by simp only [List.mem_cons, List.not_mem_nil, or_false] at hv; rcases hv with rfl <;> rfl) (by exact Nat.le_of_ble_eq_true rfl) hG rfl (fun X hl hg hX r0 σ0 hR => by subst hl; subst hg; exact jb_Top_tell hX hR this hthis)
