def jl_Teller_readBlock : List qm_I := [(0, .iload_n 1, 1, 1), (1, .iconst 1, 1, 2), (2, .if_icmp .eq 8, 3, 5), (5, .iload_n 1, 1, 6), (6, .iconst 2, 1, 7), (7, .if_icmp .ne 7, 3, 10), (10, .iconst 1, 1, 11), (11, .goto 4, 3, 14), (14, .iconst 0, 1, 15), (15, .istore_n 3, 1, 16), (16, .aload_n 0, 1, 17), (17, .getfield 18, 3, 20), (20, .invokevirtual 62, 3, 23), (23, .istore 4, 2, 25), (25, .aload_n 0, 1, 26), (26, .getfield 18, 3, 29), (29, .getfield 132, 3, 32), (32, .bipush 16, 2, 34), (34, .if_icmp .ge 14, 3, 37), (37, .iload_n 3, 1, 38), (38, .ifCond .eq 17, 3, 41), (41, .iload 4, 2, 43), (43, .bipush 90, 2, 45), (45, .if_icmp .lt 10, 3, 48), (48, .aload_n 0, 1, 49), (49, .iload_n 2, 1, 50), (50, .iconst 3, 1, 51), (51, .invokevirtual 58, 3, 54), (54, .return_, 1, 55), (55, .aload_n 0, 1, 56), (56, .getfield 18, 3, 59), (59, .iload_n 1, 1, 60), (60, .invokevirtual 135, 3, 63), (63, .istore 5, 2, 65), (65, .iload_n 1, 1, 66), (66, .iconst 3, 1, 67), (67, .if_icmp .ne 20, 3, 70), (70, .aload_n 0, 1, 71), (71, .getfield 18, 3, 74), (74, .iload 5, 2, 76), (76, .iconst 3, 1, 77), (77, .aload_n 0, 1, 78), (78, .iconst 0, 1, 79), (79, .bipush 9, 2, 81), (81, .invokevirtual 126, 3, 84), (84, .invokevirtual 138, 3, 87), (87, .iload_n 3, 1, 88), (88, .ifCond .eq 7, 3, 91), (91, .iconst 1, 1, 92), (92, .goto 4, 3, 95), (95, .iconst 0, 1, 96), (96, .istore 6, 2, 98), (98, .iload_n 1, 1, 99), (99, .ifCond .eq 8, 3, 102), (102, .iload_n 1, 1, 103), (103, .iconst 3, 1, 104), (104, .if_icmp .ne 35, 3, 107), (107, .aload_n 0, 1, 108), (108, .invokevirtual 55, 3, 111), (111, .istore 7, 2, 113), (113, .aload_n 0, 1, 114), (114, .iconst 1, 1, 115), (115, .bipush 30, 2, 117), (117, .invokevirtual 126, 3, 120), (120, .istore 6, 2, 122), (122, .iload 4, 2, 124), (124, .iload 6, 2, 126), (126, .iadd, 1, 127), (127, .bipush 90, 2, 129), (129, .if_icmp .le 10, 3, 132), (132, .aload_n 0, 1, 133), (133, .iload 7, 2, 135), (135, .iconst 3, 1, 136), (136, .invokevirtual 58, 3, 139), (139, .aload_n 0, 1, 140), (140, .getfield 18, 3, 143), (143, .iload 5, 2, 145), (145, .iconst 1, 1, 146), (146, .iload 6, 2, 148), (148, .invokevirtual 138, 3, 151), (151, .aload_n 0, 1, 152), (152, .getfield 18, 3, 155), (155, .iload 5, 2, 157), (157, .iconst 2, 1, 158), (158, .aload_n 0, 1, 159), (159, .iconst 1, 1, 160), (160, .iload_n 1, 1, 161), (161, .invokestatic 142, 3, 164), (164, .invokevirtual 126, 3, 167), (167, .invokevirtual 138, 3, 170), (170, .iload_n 1, 1, 171), (171, .iconst 4, 1, 172), (172, .if_icmp .eq 10, 3, 175), (175, .aload_n 0, 1, 176), (176, .iload 5, 2, 178), (178, .iload_n 1, 1, 179), (179, .invokevirtual 145, 3, 182), (182, .return_, 1, 183)]
theorem jd_Teller_readBlock : qm_D prog_8_method_10_code jl_Teller_readBlock := qm_D_of (by decide +kernel)
noncomputable def jf_Teller_readBlock (this : Nat) (p1 : Int32) (p2 : Int32) : qm_M Unit :=
  mB (α := Int32) (
    mB (α := (Unit ⊕ Int32)) (
      if p1 = 1 then
        mP (Sum.inl ())
      else
        if ¬ p1 = 2 then
          mP (Sum.inr 0)
        else
          mP (Sum.inl ())) (Sum.elim (fun s2 =>
      mP 1) mP)) fun s1 =>
  mB (jf_Run_allPieces (qm_rf this 1)) fun x3 =>
  mB (mGt (qm_rf this 1) 0) fun x4 =>
  mB (α := (Unit ⊕ Unit)) (
    if 16 ≤ x4 then
      mP (Sum.inl ())
    else
      mB (α := (Unit ⊕ (Unit ⊕ Unit))) (
        if s1 = 0 then
          mP (Sum.inl ())
        else
          if x3 < 90 then
            mP (Sum.inl ())
          else
            mP (Sum.inr (Sum.inl ()))) (Sum.elim (fun s6 =>
        mB (jf_Run_add (qm_rf this 1) p1) fun x7 =>
        mB (α := Unit) (
          if ¬ p1 = 3 then
            mP ()
          else
            mB (jf_Teller_readNumber this 0 9) fun x9 =>
            mB (jf_Run_putCell (qm_rf this 1) x7 3 x9) fun _ =>
            mP ()) fun s8 =>
        mB (α := Int32) (
          if s1 = 0 then
            mP 0
          else
            mP 1) fun s10 =>
        mB (α := Int32) (
          mB (α := (Unit ⊕ Int32)) (
            if p1 = 0 then
              mP (Sum.inl ())
            else
              if ¬ p1 = 3 then
                mP (Sum.inr s10)
              else
                mP (Sum.inl ())) (Sum.elim (fun s12 =>
            mB (jf_Teller_place this) fun x13 =>
            mB (jf_Teller_readNumber this 1 30) fun x14 =>
            if (x3 + x14) ≤ 90 then
              mP x14
            else
              mB (jf_Teller_wrong this x13 3) fun _ =>
              mP x14) mP)) fun s11 =>
        mB (jf_Run_putCell (qm_rf this 1) x7 1 s11) fun _ =>
        mB (jf_Teller_mostHigh p1) fun x15 =>
        mB (jf_Teller_readNumber this 1 x15) fun x16 =>
        mB (jf_Run_putCell (qm_rf this 1) x7 2 x16) fun _ =>
        if p1 = 4 then
          mP (Sum.inr ())
        else
          mB (jf_Teller_readWords this x7 p1) fun _ =>
          mP (Sum.inr ())) mP)) (Sum.elim (fun s5 =>
    mB (jf_Teller_wrong this p2 3) fun _ =>
    mP ()) mP)
set_option maxRecDepth 20000 in
set_option maxHeartbeats 4000000 in
theorem jb_Teller_readBlock {X : qm_X} (hX : qm_ok X qr_Teller prog_8_method_10_code 8 4 97 jl_Teller_readBlock) {σ0 : qm_Mem} (hR : qm_RV X σ0) (this : Nat) (p1 : Int32) (p2 : Int32) (hthis : (qm_kd this).1 = 16) : qm_B X (jf_Teller_readBlock this p1 p2) 0 [some (.ref (qx_ad X this)), some (.int p1), some (.int p2), none, none, none, none, none] [] (fun _ σ1 => σ1 = σ0) := by
  unfold jf_Teller_readBlock
  refine qb_iload_n hX 0 rfl rfl ?_
  refine qb_iconst hX 1 1 rfl (by decide) ?_
  refine qb_join 15 (fun s1 => [some (.ref (qx_ad X this)), some (.int p1), some (.int p2), none, none, none, none, none]) (fun s1 => [.int s1]) ?_ ?_
  ·
    refine qb_join2 10 (fun s2 => [some (.ref (qx_ad X this)), some (.int p1), some (.int p2), none, none, none, none, none]) (fun s2 => []) ?_ ?_
    ·
      refine qb_iceq hX 2 10 rfl (by decide) ?_ ?_
      ·
        exact qb_exit (fun σ h => qj_wk (ρ' := [some (.ref (qx_ad X this)), some (.int p1), some (.int p2), none, none, none, none, none]) (qw_s (qw_s (qw_s (qw_n (qw_n (qw_n (qw_n (qw_n (qw_0))))))))) h)
      ·
        refine qb_iload_n hX 3 rfl rfl ?_
        refine qb_iconst hX 4 2 rfl (by decide) ?_
        refine qb_icne hX 5 14 rfl (by decide) ?_ ?_
        ·
          refine qb_iconst hX 8 0 rfl (by decide) ?_
          exact qb_exit (fun σ h => qj_wk (ρ' := [some (.ref (qx_ad X this)), some (.int p1), some (.int p2), none, none, none, none, none]) (qw_s (qw_s (qw_s (qw_n (qw_n (qw_n (qw_n (qw_n (qw_0))))))))) h)
        ·
          exact qb_exit (fun σ h => qj_wk (ρ' := [some (.ref (qx_ad X this)), some (.int p1), some (.int p2), none, none, none, none, none]) (qw_s (qw_s (qw_s (qw_n (qw_n (qw_n (qw_n (qw_n (qw_0))))))))) h)
    · intro s2
      refine qb_iconst hX 6 1 rfl (by decide) ?_
      exact qb_exit (fun σ h => qj_goto hX 7 rfl (by decide) (qj_wk (ρ' := [some (.ref (qx_ad X this)), some (.int p1), some (.int p2), none, none, none, none, none]) (qw_s (qw_s (qw_s (qw_n (qw_n (qw_n (qw_n (qw_n (qw_0))))))))) h))
  · intro s1
    refine qb_istore_n hX 9 ([some (.ref (qx_ad X this)), some (.int p1), some (.int p2), some (.int s1), none, none, none, none]) rfl (by decide) rfl ?_
    refine qb_aload_n hX 10 rfl rfl ?_
    refine qb_getR hX 11 rfl fl_Teller_18 hthis rfl ?_
    refine qb_callI hX 12 rfl cv_Teller_62 (jm_Run_allPieces (qk_GI hX) (qm_rf this 1)  (kf_Teller_1 hthis) ) (ci := 4) (kf_Teller_1 hthis) ⟨rfl, rfl, rfl, by decide, by decide⟩ rfl (by exact Nat.le_of_ble_eq_true rfl) (fun x3 => ?_)
    refine qb_istore hX 13 ([some (.ref (qx_ad X this)), some (.int p1), some (.int p2), some (.int s1), some (.int x3), none, none, none]) rfl (by decide) rfl ?_
    refine qb_aload_n hX 14 rfl rfl ?_
    refine qb_getR hX 15 rfl fl_Teller_18 hthis rfl ?_
    refine qb_get hX 16 rfl fl_Teller_132 (kf_Teller_1 hthis) rfl (fun x4 => ?_)
    refine qb_bipush hX 17 16 rfl (by decide) ?_
    refine qb_join2 48 (fun s5 => [some (.ref (qx_ad X this)), none, some (.int p2), none, none, none, none, none]) (fun s5 => []) ?_ ?_
    ·
      refine qb_icge hX 18 48 rfl (by decide) ?_ ?_
      ·
        exact qb_exit (fun σ h => qj_wk (ρ' := [some (.ref (qx_ad X this)), none, some (.int p2), none, none, none, none, none]) (qw_s (qw_n (qw_s (qw_n (qw_n (qw_n (qw_n (qw_n (qw_0))))))))) h)
      ·
        refine qb_iload_n hX 19 rfl rfl ?_
        refine qb_join2 55 (fun s6 => [some (.ref (qx_ad X this)), some (.int p1), none, some (.int s1), some (.int x3), none, none, none]) (fun s6 => []) ?_ ?_
        ·
          refine qb_ifeq hX 20 55 rfl (by decide) ?_ ?_
          ·
            exact qb_exit (fun σ h => qj_wk (ρ' := [some (.ref (qx_ad X this)), some (.int p1), none, some (.int s1), some (.int x3), none, none, none]) (qw_s (qw_s (qw_n (qw_s (qw_s (qw_n (qw_n (qw_n (qw_0))))))))) h)
          ·
            refine qb_iload hX 21 rfl rfl ?_
            refine qb_bipush hX 22 90 rfl (by decide) ?_
            refine qb_iclt hX 23 55 rfl (by decide) ?_ ?_
            ·
              exact qb_exit (fun σ h => qj_wk (ρ' := [some (.ref (qx_ad X this)), some (.int p1), none, some (.int s1), some (.int x3), none, none, none]) (qw_s (qw_s (qw_n (qw_s (qw_s (qw_n (qw_n (qw_n (qw_0))))))))) h)
            ·
              exact qb_exit (fun σ h => qj_wk (ρ' := [some (.ref (qx_ad X this)), none, some (.int p2), none, none, none, none, none]) (qw_s (qw_n (qw_s (qw_n (qw_n (qw_n (qw_n (qw_n (qw_0))))))))) h)
        · intro s6
          refine qb_aload_n hX 29 rfl rfl ?_
          refine qb_getR hX 30 rfl fl_Teller_18 hthis rfl ?_
          refine qb_iload_n hX 31 rfl rfl ?_
          refine qb_callI hX 32 rfl cv_Teller_135 (jm_Run_add (qk_GI hX) (qm_rf this 1) p1 (kf_Teller_1 hthis) ) (ci := 4) (kf_Teller_1 hthis) ⟨rfl, rfl, rfl, by decide, by decide⟩ rfl (by exact Nat.le_of_ble_eq_true rfl) (fun x7 => ?_)
          refine qb_istore hX 33 ([some (.ref (qx_ad X this)), some (.int p1), none, some (.int s1), some (.int x3), some (.int x7), none, none]) rfl (by decide) rfl ?_
          refine qb_iload_n hX 34 rfl rfl ?_
          refine qb_iconst hX 35 3 rfl (by decide) ?_
          refine qb_join 87 (fun s8 => [some (.ref (qx_ad X this)), some (.int p1), none, some (.int s1), some (.int x3), some (.int x7), none, none]) (fun s8 => []) ?_ ?_
          ·
            refine qb_icne hX 36 87 rfl (by decide) ?_ ?_
            ·
              exact qb_exit (fun σ h => qj_wk (ρ' := [some (.ref (qx_ad X this)), some (.int p1), none, some (.int s1), some (.int x3), some (.int x7), none, none]) (qw_s (qw_s (qw_n (qw_s (qw_s (qw_s (qw_n (qw_n (qw_0))))))))) h)
            ·
              refine qb_aload_n hX 37 rfl rfl ?_
              refine qb_getR hX 38 rfl fl_Teller_18 hthis rfl ?_
              refine qb_iload hX 39 rfl rfl ?_
              refine qb_iconst hX 40 3 rfl (by decide) ?_
              refine qb_aload_n hX 41 rfl rfl ?_
              refine qb_iconst hX 42 0 rfl (by decide) ?_
              refine qb_bipush hX 43 9 rfl (by decide) ?_
              refine qb_callI hX 44 rfl cv_Teller_126 (jm_Teller_readNumber (qk_GI hX) this 0 9 hthis ) (ci := 6) hthis ⟨rfl, rfl, rfl, by decide, by decide⟩ rfl (by exact Nat.le_of_ble_eq_true rfl) (fun x9 => ?_)
              refine qb_callV hX 45 rfl cv_Teller_138 (jm_Run_putCell (qk_GI hX) (qm_rf this 1) x7 3 x9 (kf_Teller_1 hthis) ) (ci := 4) (kf_Teller_1 hthis) ⟨rfl, rfl, rfl, by decide, by decide⟩ rfl (by exact Nat.le_of_ble_eq_true rfl) ?_
              exact qb_exit (fun σ h => qj_wk (ρ' := [some (.ref (qx_ad X this)), some (.int p1), none, some (.int s1), some (.int x3), some (.int x7), none, none]) (qw_s (qw_s (qw_n (qw_s (qw_s (qw_s (qw_n (qw_n (qw_0))))))))) h)
          · intro s8
            refine qb_iload_n hX 46 rfl rfl ?_
            refine qb_join 96 (fun s10 => [some (.ref (qx_ad X this)), some (.int p1), none, none, some (.int x3), some (.int x7), none, none]) (fun s10 => [.int s10]) ?_ ?_
            ·
              refine qb_ifeq hX 47 95 rfl (by decide) ?_ ?_
              ·
                refine qb_iconst hX 50 0 rfl (by decide) ?_
                exact qb_exit (fun σ h => qj_wk (ρ' := [some (.ref (qx_ad X this)), some (.int p1), none, none, some (.int x3), some (.int x7), none, none]) (qw_s (qw_s (qw_n (qw_n (qw_s (qw_s (qw_n (qw_n (qw_0))))))))) h)
              ·
                refine qb_iconst hX 48 1 rfl (by decide) ?_
                exact qb_exit (fun σ h => qj_goto hX 49 rfl (by decide) (qj_wk (ρ' := [some (.ref (qx_ad X this)), some (.int p1), none, none, some (.int x3), some (.int x7), none, none]) (qw_s (qw_s (qw_n (qw_n (qw_s (qw_s (qw_n (qw_n (qw_0))))))))) h))
            · intro s10
              refine qb_istore hX 51 ([some (.ref (qx_ad X this)), some (.int p1), none, none, some (.int x3), some (.int x7), some (.int s10), none]) rfl (by decide) rfl ?_
              refine qb_iload_n hX 52 rfl rfl ?_
              refine qb_join 139 (fun s11 => [some (.ref (qx_ad X this)), some (.int p1), none, none, none, some (.int x7), some (.int s11), none]) (fun s11 => []) ?_ ?_
              ·
                refine qb_join2 107 (fun s12 => [some (.ref (qx_ad X this)), some (.int p1), none, none, some (.int x3), some (.int x7), none, none]) (fun s12 => []) ?_ ?_
                ·
                  refine qb_ifeq hX 53 107 rfl (by decide) ?_ ?_
                  ·
                    exact qb_exit (fun σ h => qj_wk (ρ' := [some (.ref (qx_ad X this)), some (.int p1), none, none, some (.int x3), some (.int x7), none, none]) (qw_s (qw_s (qw_n (qw_n (qw_s (qw_s (qw_n (qw_n (qw_0))))))))) h)
                  ·
                    refine qb_iload_n hX 54 rfl rfl ?_
                    refine qb_iconst hX 55 3 rfl (by decide) ?_
                    refine qb_icne hX 56 139 rfl (by decide) ?_ ?_
                    ·
                      exact qb_exit (fun σ h => qj_wk (ρ' := [some (.ref (qx_ad X this)), some (.int p1), none, none, none, some (.int x7), some (.int s10), none]) (qw_s (qw_s (qw_n (qw_n (qw_n (qw_s (qw_s (qw_n (qw_0))))))))) h)
                    ·
                      exact qb_exit (fun σ h => qj_wk (ρ' := [some (.ref (qx_ad X this)), some (.int p1), none, none, some (.int x3), some (.int x7), none, none]) (qw_s (qw_s (qw_n (qw_n (qw_s (qw_s (qw_n (qw_n (qw_0))))))))) h)
                · intro s12
                  refine qb_aload_n hX 57 rfl rfl ?_
                  refine qb_callI hX 58 rfl cv_Teller_55 (jm_Teller_place (qk_GI hX) this  hthis ) (ci := 6) hthis ⟨rfl, rfl, rfl, by decide, by decide⟩ rfl (by exact Nat.le_of_ble_eq_true rfl) (fun x13 => ?_)
                  refine qb_istore hX 59 ([some (.ref (qx_ad X this)), some (.int p1), none, none, some (.int x3), some (.int x7), none, some (.int x13)]) rfl (by decide) rfl ?_
                  refine qb_aload_n hX 60 rfl rfl ?_
                  refine qb_iconst hX 61 1 rfl (by decide) ?_
                  refine qb_bipush hX 62 30 rfl (by decide) ?_
                  refine qb_callI hX 63 rfl cv_Teller_126 (jm_Teller_readNumber (qk_GI hX) this 1 30 hthis ) (ci := 6) hthis ⟨rfl, rfl, rfl, by decide, by decide⟩ rfl (by exact Nat.le_of_ble_eq_true rfl) (fun x14 => ?_)
                  refine qb_istore hX 64 ([some (.ref (qx_ad X this)), some (.int p1), none, none, some (.int x3), some (.int x7), some (.int x14), some (.int x13)]) rfl (by decide) rfl ?_
                  refine qb_iload hX 65 rfl rfl ?_
                  refine qb_iload hX 66 rfl rfl ?_
                  refine qb_iadd hX 67 rfl ?_
                  refine qb_bipush hX 68 90 rfl (by decide) ?_
                  refine qb_icle hX 69 139 rfl (by decide) ?_ ?_
                  ·
                    exact qb_exit (fun σ h => qj_wk (ρ' := [some (.ref (qx_ad X this)), some (.int p1), none, none, none, some (.int x7), some (.int x14), none]) (qw_s (qw_s (qw_n (qw_n (qw_n (qw_s (qw_s (qw_n (qw_0))))))))) h)
                  ·
                    refine qb_aload_n hX 70 rfl rfl ?_
                    refine qb_iload hX 71 rfl rfl ?_
                    refine qb_iconst hX 72 3 rfl (by decide) ?_
                    refine qb_callV hX 73 rfl cv_Teller_58 (jm_Teller_wrong (qk_GI hX) this x13 3 hthis ) (ci := 6) hthis ⟨rfl, rfl, rfl, by decide, by decide⟩ rfl (by exact Nat.le_of_ble_eq_true rfl) ?_
                    exact qb_exit (fun σ h => qj_wk (ρ' := [some (.ref (qx_ad X this)), some (.int p1), none, none, none, some (.int x7), some (.int x14), none]) (qw_s (qw_s (qw_n (qw_n (qw_n (qw_s (qw_s (qw_n (qw_0))))))))) h)
              · intro s11
                refine qb_aload_n hX 74 rfl rfl ?_
                refine qb_getR hX 75 rfl fl_Teller_18 hthis rfl ?_
                refine qb_iload hX 76 rfl rfl ?_
                refine qb_iconst hX 77 1 rfl (by decide) ?_
                refine qb_iload hX 78 rfl rfl ?_
                refine qb_callV hX 79 rfl cv_Teller_138 (jm_Run_putCell (qk_GI hX) (qm_rf this 1) x7 1 s11 (kf_Teller_1 hthis) ) (ci := 4) (kf_Teller_1 hthis) ⟨rfl, rfl, rfl, by decide, by decide⟩ rfl (by exact Nat.le_of_ble_eq_true rfl) ?_
                refine qb_aload_n hX 80 rfl rfl ?_
                refine qb_getR hX 81 rfl fl_Teller_18 hthis rfl ?_
                refine qb_iload hX 82 rfl rfl ?_
                refine qb_iconst hX 83 2 rfl (by decide) ?_
                refine qb_aload_n hX 84 rfl rfl ?_
                refine qb_iconst hX 85 1 rfl (by decide) ?_
                refine qb_iload_n hX 86 rfl rfl ?_
                refine qb_calSI hX 87 rfl cv_Teller_142 (jm_Teller_mostHigh (qk_GI hX) p1 ) ⟨rfl, by decide, by decide⟩ rfl (by exact Nat.le_of_ble_eq_true rfl) (fun x15 => ?_)
                refine qb_callI hX 88 rfl cv_Teller_126 (jm_Teller_readNumber (qk_GI hX) this 1 x15 hthis ) (ci := 6) hthis ⟨rfl, rfl, rfl, by decide, by decide⟩ rfl (by exact Nat.le_of_ble_eq_true rfl) (fun x16 => ?_)
                refine qb_callV hX 89 rfl cv_Teller_138 (jm_Run_putCell (qk_GI hX) (qm_rf this 1) x7 2 x16 (kf_Teller_1 hthis) ) (ci := 4) (kf_Teller_1 hthis) ⟨rfl, rfl, rfl, by decide, by decide⟩ rfl (by exact Nat.le_of_ble_eq_true rfl) ?_
                refine qb_iload_n hX 90 rfl rfl ?_
                refine qb_iconst hX 91 4 rfl (by decide) ?_
                refine qb_iceq hX 92 182 rfl (by decide) ?_ ?_
                ·
                  exact qb_vret hX 97 rfl hR (fun _ h => h)
                ·
                  refine qb_aload_n hX 93 rfl rfl ?_
                  refine qb_iload hX 94 rfl rfl ?_
                  refine qb_iload_n hX 95 rfl rfl ?_
                  refine qb_callV hX 96 rfl cv_Teller_145 (jm_Teller_readWords (qk_GI hX) this x7 p1 hthis ) (ci := 6) hthis ⟨rfl, rfl, rfl, by decide, by decide⟩ rfl (by exact Nat.le_of_ble_eq_true rfl) ?_
                  exact qb_vret hX 97 rfl hR (fun _ h => h)
    · intro s5
      refine qb_aload_n hX 24 rfl rfl ?_
      refine qb_iload_n hX 25 rfl rfl ?_
      refine qb_iconst hX 26 3 rfl (by decide) ?_
      refine qb_callV hX 27 rfl cv_Teller_58 (jm_Teller_wrong (qk_GI hX) this p2 3 hthis ) (ci := 6) hthis ⟨rfl, rfl, rfl, by decide, by decide⟩ rfl (by exact Nat.le_of_ble_eq_true rfl) ?_
      exact qb_vret hX 28 rfl hR (fun _ h => h)
theorem jm_Teller_readBlock {l : Launch} {G : qm_G} (hG : qm_GI G) (this : Nat) (p1 : Int32) (p2 : Int32) (hthis : (qm_kd this).1 = 16) : qm_MV l G jy_Teller_readBlock prog_8_method_10_code 8 4 97 [.ref (G.1 this), .int p1, .int p2] (jf_Teller_readBlock this p1 p2) :=
  qm_metV (by decide +kernel) jd_Teller_readBlock (fun v hv => by simp only [List.mem_cons, List.not_mem_nil, or_false] at hv; rcases hv with rfl | rfl | rfl <;> rfl) (by exact Nat.le_of_ble_eq_true rfl) hG (fun X hl hg hX σ0 hR => by subst hl; subst hg; exact jb_Teller_readBlock hX hR this p1 p2 hthis)
def jl_Teller_readPart : List qm_I := [(0, .aload_n 0, 1, 1), (1, .invokevirtual 55, 3, 4), (4, .istore_n 1, 1, 5), (5, .aload_n 0, 1, 6), (6, .invokevirtual 108, 3, 9), (9, .istore_n 2, 1, 10), (10, .iload_n 2, 1, 11), (11, .iconst (-1), 1, 12), (12, .if_icmp .eq 9, 3, 15), (15, .iload_n 2, 1, 16), (16, .bipush 13, 2, 18), (18, .if_icmp .lt 12, 3, 21), (21, .aload_n 0, 1, 22), (22, .iload_n 1, 1, 23), (23, .iconst 1, 1, 24), (24, .invokevirtual 58, 3, 27), (27, .goto 27, 3, 30), (30, .iload_n 2, 1, 31), (31, .bipush 8, 2, 33), (33, .if_icmp .ge 12, 3, 36), (36, .aload_n 0, 1, 37), (37, .iload_n 2, 1, 38), (38, .iload_n 1, 1, 39), (39, .invokevirtual 111, 3, 42), (42, .goto 12, 3, 45), (45, .aload_n 0, 1, 46), (46, .iload_n 2, 1, 47), (47, .bipush 8, 2, 49), (49, .isub, 1, 50), (50, .iload_n 1, 1, 51), (51, .invokevirtual 114, 3, 54), (54, .return_, 1, 55)]
theorem jd_Teller_readPart : qm_D prog_8_method_8_code jl_Teller_readPart := qm_D_of (by decide +kernel)
noncomputable def jf_Teller_readPart (this : Nat) : qm_M Unit :=
  mB (jf_Teller_place this) fun x1 =>
  mB (jf_Teller_readWord this) fun x2 =>
  mB (α := (Unit ⊕ Unit)) (
    if x2 = (-1) then
      mP (Sum.inl ())
    else
      if x2 < 13 then
        if 8 ≤ x2 then
          mB (jf_Teller_readBlock this (x2 - 8) x1) fun _ =>
          mP (Sum.inr ())
        else
          mB (jf_Teller_readSetting this x2 x1) fun _ =>
          mP (Sum.inr ())
      else
        mP (Sum.inl ())) (Sum.elim (fun s3 =>
    mB (jf_Teller_wrong this x1 1) fun _ =>
    mP ()) mP)
set_option maxRecDepth 20000 in
set_option maxHeartbeats 4000000 in
theorem jb_Teller_readPart {X : qm_X} (hX : qm_ok X qr_Teller prog_8_method_8_code 3 5 124 jl_Teller_readPart) {σ0 : qm_Mem} (hR : qm_RV X σ0) (this : Nat) (hthis : (qm_kd this).1 = 16) : qm_B X (jf_Teller_readPart this) 0 [some (.ref (qx_ad X this)), none, none] [] (fun _ σ1 => σ1 = σ0) := by
  unfold jf_Teller_readPart
  refine qb_aload_n hX 0 rfl rfl ?_
  refine qb_callI hX 1 rfl cv_Teller_55 (jm_Teller_place (qk_GI hX) this  hthis ) (ci := 6) hthis ⟨rfl, rfl, rfl, by decide, by decide⟩ rfl (by exact Nat.le_of_ble_eq_true rfl) (fun x1 => ?_)
  refine qb_istore_n hX 2 ([some (.ref (qx_ad X this)), some (.int x1), none]) rfl (by decide) rfl ?_
  refine qb_aload_n hX 3 rfl rfl ?_
  refine qb_callI hX 4 rfl cv_Teller_108 (jm_Teller_readWord (qk_GI hX) this  hthis ) (ci := 6) hthis ⟨rfl, rfl, rfl, by decide, by decide⟩ rfl (by exact Nat.le_of_ble_eq_true rfl) (fun x2 => ?_)
  refine qb_istore_n hX 5 ([some (.ref (qx_ad X this)), some (.int x1), some (.int x2)]) rfl (by decide) rfl ?_
  refine qb_iload_n hX 6 rfl rfl ?_
  refine qb_iconst hX 7 (-1) rfl (by decide) ?_
  refine qb_join2 21 (fun s3 => [some (.ref (qx_ad X this)), some (.int x1), none]) (fun s3 => []) ?_ ?_
  ·
    refine qb_iceq hX 8 21 rfl (by decide) ?_ ?_
    ·
      exact qb_exit (fun σ h => qj_wk (ρ' := [some (.ref (qx_ad X this)), some (.int x1), none]) (qw_s (qw_s (qw_n (qw_0)))) h)
    ·
      refine qb_iload_n hX 9 rfl rfl ?_
      refine qb_bipush hX 10 13 rfl (by decide) ?_
      refine qb_iclt hX 11 30 rfl (by decide) ?_ ?_
      ·
        refine qb_iload_n hX 17 rfl rfl ?_
        refine qb_bipush hX 18 8 rfl (by decide) ?_
        refine qb_icge hX 19 45 rfl (by decide) ?_ ?_
        ·
          refine qb_aload_n hX 25 rfl rfl ?_
          refine qb_iload_n hX 26 rfl rfl ?_
          refine qb_bipush hX 27 8 rfl (by decide) ?_
          refine qb_isub hX 28 rfl ?_
          refine qb_iload_n hX 29 rfl rfl ?_
          refine qb_callV hX 30 rfl cv_Teller_114 (jm_Teller_readBlock (qk_GI hX) this (x2 - 8) x1 hthis ) (ci := 6) hthis ⟨rfl, rfl, rfl, by decide, by decide⟩ rfl (by exact Nat.le_of_ble_eq_true rfl) ?_
          exact qb_vret hX 31 rfl hR (fun _ h => h)
        ·
          refine qb_aload_n hX 20 rfl rfl ?_
          refine qb_iload_n hX 21 rfl rfl ?_
          refine qb_iload_n hX 22 rfl rfl ?_
          refine qb_callV hX 23 rfl cv_Teller_111 (jm_Teller_readSetting (qk_GI hX) this x2 x1 hthis ) (ci := 6) hthis ⟨rfl, rfl, rfl, by decide, by decide⟩ rfl (by exact Nat.le_of_ble_eq_true rfl) ?_
          refine qb_goto hX 24 (tgt := 54) rfl (by decide) ?_
          exact qb_vret hX 31 rfl hR (fun _ h => h)
      ·
        exact qb_exit (fun σ h => qj_wk (ρ' := [some (.ref (qx_ad X this)), some (.int x1), none]) (qw_s (qw_s (qw_n (qw_0)))) h)
  · intro s3
    refine qb_aload_n hX 12 rfl rfl ?_
    refine qb_iload_n hX 13 rfl rfl ?_
    refine qb_iconst hX 14 1 rfl (by decide) ?_
    refine qb_callV hX 15 rfl cv_Teller_58 (jm_Teller_wrong (qk_GI hX) this x1 1 hthis ) (ci := 6) hthis ⟨rfl, rfl, rfl, by decide, by decide⟩ rfl (by exact Nat.le_of_ble_eq_true rfl) ?_
    refine qb_goto hX 16 (tgt := 54) rfl (by decide) ?_
    exact qb_vret hX 31 rfl hR (fun _ h => h)
theorem jm_Teller_readPart {l : Launch} {G : qm_G} (hG : qm_GI G) (this : Nat) (hthis : (qm_kd this).1 = 16) : qm_MV l G jy_Teller_readPart prog_8_method_8_code 3 5 124 [.ref (G.1 this)] (jf_Teller_readPart this) :=
  qm_metV (by decide +kernel) jd_Teller_readPart (fun v hv => by simp only [List.mem_cons, List.not_mem_nil, or_false] at hv; rcases hv with rfl <;> rfl) (by exact Nat.le_of_ble_eq_true rfl) hG (fun X hl hg hX σ0 hR => by subst hl; subst hg; exact jb_Teller_readPart hX hR this hthis)
def jl_Walker_fillRow : List qm_I := [(0, .iconst 0, 1, 1), (1, .istore_n 2, 1, 2), (2, .iload_n 2, 1, 3), (3, .aload_n 0, 1, 4), (4, .arraylength, 1, 5), (5, .if_icmp .ge 13, 3, 8), (8, .aload_n 0, 1, 9), (9, .iload_n 2, 1, 10), (10, .iload_n 1, 1, 11), (11, .iastore, 1, 12), (12, .iinc 2 1, 3, 15), (15, .goto (-13), 3, 18), (18, .return_, 1, 19)]
theorem jd_Walker_fillRow : qm_D prog_9_method_6_code jl_Walker_fillRow := qm_D_of (by decide +kernel)
noncomputable def jf_Walker_fillRow (p1 : Nat) (p2 : Int32) : qm_M Unit :=
  mB (α := Unit) (
    mW (S := Int32) (α := Unit) (fun s2 =>
      if (Int32.ofNat (qm_kd p1).2) ≤ s2 then
        mP (Sum.inr ())
      else
        mB (mSt p1 s2 p2) fun _ =>
        mB (mP (s2 + 1)) fun x3 =>
        mP (Sum.inl x3)) 0) fun s1 =>
  mP ()
set_option maxRecDepth 20000 in
set_option maxHeartbeats 4000000 in
theorem jb_Walker_fillRow {X : qm_X} (hX : qm_ok X qr_Walker prog_9_method_6_code 3 0 0 jl_Walker_fillRow) {σ0 : qm_Mem} (hR : qm_RV X σ0) (p1 : Nat) (p2 : Int32) (hp1 : (qm_kd p1).1 = 1) : qm_B X (jf_Walker_fillRow p1 p2) 0 [some (.ref (qx_ad X p1)), some (.int p2), none] [] (fun _ σ1 => σ1 = σ0) := by
  unfold jf_Walker_fillRow
  refine qb_iconst hX 0 0 rfl (by decide) ?_
  refine qb_istore_n hX 1 ([some (.ref (qx_ad X p1)), some (.int p2), some (.int 0)]) rfl (by decide) rfl ?_
  refine qb_join 18 (fun s1 => [none, none, none]) (fun s1 => []) ?_ ?_
  ·
    refine qb_loopw (0) (fun s2 => [some (.ref (qx_ad X p1)), some (.int p2), some (.int s2)]) (qw_s (qw_s (qw_s (qw_0)))) (fun s2 => ?_)
    refine qb_iload_n hX 2 rfl rfl ?_
    refine qb_aload_n hX 3 rfl rfl ?_
    refine qb_alen hX 4 (Int32.ofNat (qm_kd p1).2) rfl (Or.inl hp1) rfl ?_
    refine qb_icge hX 5 18 rfl (by decide) ?_ ?_
    ·
      exact qb_exit (fun σ h => qj_wk (ρ' := [none, none, none]) (qw_n (qw_n (qw_n (qw_0)))) h)
    ·
      refine qb_aload_n hX 6 rfl rfl ?_
      refine qb_iload_n hX 7 rfl rfl ?_
      refine qb_iload_n hX 8 rfl rfl ?_
      refine qb_iast hX 9 rfl hp1 ?_
      refine qb_iinc hX 10 1 (fun x3 => [some (.ref (qx_ad X p1)), some (.int p2), some (.int x3)]) rfl (by decide) (by decide) rfl (fun _ => rfl) (fun x3 => ?_)
      exact qb_exit (fun σ h => qj_goto hX 11 rfl (by decide) (qj_wk (ρ' := [some (.ref (qx_ad X p1)), some (.int p2), some (.int x3)]) (qw_s (qw_s (qw_s (qw_0)))) h))
  · intro s1
    exact qb_vret hX 12 rfl hR (fun _ h => h)
theorem jm_Walker_fillRow {l : Launch} {G : qm_G} (hG : qm_GI G) (p1 : Nat) (p2 : Int32) (hp1 : (qm_kd p1).1 = 1) : qm_MV l G jy_Walker_fillRow prog_9_method_6_code 3 0 0 [.ref (G.1 p1), .int p2] (jf_Walker_fillRow p1 p2) :=
  qm_metV (by decide +kernel) jd_Walker_fillRow (fun v hv => by simp only [List.mem_cons, List.not_mem_nil, or_false] at hv; rcases hv with rfl | rfl <;> rfl) (by exact Nat.le_of_ble_eq_true rfl) hG (fun X hl hg hX σ0 hR => by subst hl; subst hg; exact jb_Walker_fillRow hX hR p1 p2 hp1)
def jl_Walker_stepFarther : List qm_I := [(0, .iload_n 1, 1, 1), (1, .istore 6, 2, 3), (3, .iload 6, 2, 5), (5, .iload_n 2, 1, 6), (6, .if_icmp .gt 95, 3, 9), (9, .iload 6, 2, 11), (11, .aload 5, 2, 13), (13, .arraylength, 1, 14), (14, .if_icmp .ge 87, 3, 17), (17, .aload_n 0, 1, 18), (18, .getfield 15, 3, 21), (21, .iload_n 1, 1, 22), (22, .iload 6, 2, 24), (24, .invokevirtual 61, 3, 27), (27, .iload 4, 2, 29), (29, .if_icmp .gt 72, 3, 32), (32, .aload_n 0, 1, 33), (33, .getfield 15, 3, 36), (36, .iload 6, 2, 38), (38, .invokevirtual 64, 3, 41), (41, .ifCond .eq 19, 3, 44), (44, .aload_n 0, 1, 45), (45, .getfield 22, 3, 48), (48, .iload_n 1, 1, 49), (49, .iload 6, 2, 51), (51, .iload_n 3, 1, 52), (52, .iload 4, 2, 54), (54, .invokevirtual 68, 3, 57), (57, .goto 4, 3, 60), (60, .iconst (-1), 1, 61), (61, .istore 7, 2, 63), (63, .iload 7, 2, 65), (65, .iconst (-1), 1, 66), (66, .if_icmp .eq 29, 3, 69), (69, .aload 5, 2, 71), (71, .iload 6, 2, 73), (73, .iaload, 1, 74), (74, .iconst (-1), 1, 75), (75, .if_icmp .eq 13, 3, 78), (78, .iload 7, 2, 80), (80, .aload 5, 2, 82), (82, .iload 6, 2, 84), (84, .iaload, 1, 85), (85, .if_icmp .ge 10, 3, 88), (88, .aload 5, 2, 90), (90, .iload 6, 2, 92), (92, .iload 7, 2, 94), (94, .iastore, 1, 95), (95, .iinc 6 1, 3, 98), (98, .goto (-95), 3, 101), (101, .return_, 1, 102)]
theorem jd_Walker_stepFarther : qm_D prog_9_method_3_code jl_Walker_stepFarther := qm_D_of (by decide +kernel)
noncomputable def jf_Walker_stepFarther (this : Nat) (p1 : Int32) (p2 : Int32) (p3 : Int32) (p4 : Int32) (p5 : Nat) : qm_M Unit :=
  mB (α := Unit) (
    mW (S := Int32) (α := Unit) (fun s2 =>
      if p2 < s2 then
        mP (Sum.inr ())
      else
        if (Int32.ofNat (qm_kd p5).2) ≤ s2 then
          mP (Sum.inr ())
        else
          mB (jf_Flow_text (qm_rf this 0) p1 s2) fun x3 =>
          if p4 < x3 then
            mP (Sum.inr ())
          else
            mB (jf_Flow_mayEnd (qm_rf this 0) s2) fun x4 =>
            mB (α := Int32) (
              if x4 = 0 then
                mP (-1)
              else
                mB (jf_Fitter_leftOver (qm_rf this 1) p1 s2 p3 p4) fun x6 =>
                mP x6) fun s5 =>
            mB (α := Unit) (
              if s5 = (-1) then
                mP ()
              else
                mB (mLd p5 s2) fun x8 =>
                mB (α := (Unit ⊕ Unit)) (
                  if x8 = (-1) then
                    mP (Sum.inl ())
                  else
                    mB (mLd p5 s2) fun x10 =>
                    if x10 ≤ s5 then
                      mP (Sum.inr ())
                    else
                      mP (Sum.inl ())) (Sum.elim (fun s9 =>
                  mB (mSt p5 s2 s5) fun _ =>
                  mP ()) mP)) fun s7 =>
            mB (mP (s2 + 1)) fun x11 =>
            mP (Sum.inl x11)) p1) fun s1 =>
  mP ()
set_option maxRecDepth 20000 in
set_option maxHeartbeats 4000000 in
theorem jb_Walker_stepFarther {X : qm_X} (hX : qm_ok X qr_Walker prog_9_method_3_code 8 2 50 jl_Walker_stepFarther) {σ0 : qm_Mem} (hR : qm_RV X σ0) (this : Nat) (p1 : Int32) (p2 : Int32) (p3 : Int32) (p4 : Int32) (p5 : Nat) (hthis : (qm_kd this).1 = 17) (hp5 : (qm_kd p5).1 = 1) : qm_B X (jf_Walker_stepFarther this p1 p2 p3 p4 p5) 0 [some (.ref (qx_ad X this)), some (.int p1), some (.int p2), some (.int p3), some (.int p4), some (.ref (qx_ad X p5)), none, none] [] (fun _ σ1 => σ1 = σ0) := by
  unfold jf_Walker_stepFarther
  refine qb_iload_n hX 0 rfl rfl ?_
  refine qb_istore hX 1 ([some (.ref (qx_ad X this)), some (.int p1), some (.int p2), some (.int p3), some (.int p4), some (.ref (qx_ad X p5)), some (.int p1), none]) rfl (by decide) rfl ?_
  refine qb_join 101 (fun s1 => [none, none, none, none, none, none, none, none]) (fun s1 => []) ?_ ?_
  ·
    refine qb_loopw (p1) (fun s2 => [some (.ref (qx_ad X this)), some (.int p1), some (.int p2), some (.int p3), some (.int p4), some (.ref (qx_ad X p5)), some (.int s2), none]) (qw_s (qw_s (qw_s (qw_s (qw_s (qw_s (qw_s (qw_n (qw_0))))))))) (fun s2 => ?_)
    refine qb_iload hX 2 rfl rfl ?_
    refine qb_iload_n hX 3 rfl rfl ?_
    refine qb_icgt hX 4 101 rfl (by decide) ?_ ?_
    ·
      exact qb_exit (fun σ h => qj_wk (ρ' := [none, none, none, none, none, none, none, none]) (qw_n (qw_n (qw_n (qw_n (qw_n (qw_n (qw_n (qw_n (qw_0))))))))) h)
    ·
      refine qb_iload hX 5 rfl rfl ?_
      refine qb_aload hX 6 rfl rfl ?_
      refine qb_alen hX 7 (Int32.ofNat (qm_kd p5).2) rfl (Or.inl hp5) rfl ?_
      refine qb_icge hX 8 101 rfl (by decide) ?_ ?_
      ·
        exact qb_exit (fun σ h => qj_wk (ρ' := [none, none, none, none, none, none, none, none]) (qw_n (qw_n (qw_n (qw_n (qw_n (qw_n (qw_n (qw_n (qw_0))))))))) h)
      ·
        refine qb_aload_n hX 9 rfl rfl ?_
        refine qb_getR hX 10 rfl fl_Walker_15 hthis rfl ?_
        refine qb_iload_n hX 11 rfl rfl ?_
        refine qb_iload hX 12 rfl rfl ?_
        refine qb_callI hX 13 rfl cv_Walker_61 (jm_Flow_text (qk_GI hX) (qm_rf this 0) p1 s2 (kf_Walker_0 hthis) ) (ci := 1) (kf_Walker_0 hthis) ⟨rfl, rfl, rfl, by decide, by decide⟩ rfl (by exact Nat.le_of_ble_eq_true rfl) (fun x3 => ?_)
        refine qb_iload hX 14 rfl rfl ?_
        refine qb_icgt hX 15 101 rfl (by decide) ?_ ?_
        ·
          exact qb_exit (fun σ h => qj_wk (ρ' := [none, none, none, none, none, none, none, none]) (qw_n (qw_n (qw_n (qw_n (qw_n (qw_n (qw_n (qw_n (qw_0))))))))) h)
        ·
          refine qb_aload_n hX 16 rfl rfl ?_
          refine qb_getR hX 17 rfl fl_Walker_15 hthis rfl ?_
          refine qb_iload hX 18 rfl rfl ?_
          refine qb_callI hX 19 rfl cv_Walker_64 (jm_Flow_mayEnd (qk_GI hX) (qm_rf this 0) s2 (kf_Walker_0 hthis) ) (ci := 1) (kf_Walker_0 hthis) ⟨rfl, rfl, rfl, by decide, by decide⟩ rfl (by exact Nat.le_of_ble_eq_true rfl) (fun x4 => ?_)
          refine qb_join 61 (fun s5 => [some (.ref (qx_ad X this)), some (.int p1), some (.int p2), some (.int p3), some (.int p4), some (.ref (qx_ad X p5)), some (.int s2), none]) (fun s5 => [.int s5]) ?_ ?_
          ·
            refine qb_ifeq hX 20 60 rfl (by decide) ?_ ?_
            ·
              refine qb_iconst hX 29 (-1) rfl (by decide) ?_
              exact qb_exit (fun σ h => qj_wk (ρ' := [some (.ref (qx_ad X this)), some (.int p1), some (.int p2), some (.int p3), some (.int p4), some (.ref (qx_ad X p5)), some (.int s2), none]) (qw_s (qw_s (qw_s (qw_s (qw_s (qw_s (qw_s (qw_n (qw_0))))))))) h)
            ·
              refine qb_aload_n hX 21 rfl rfl ?_
              refine qb_getR hX 22 rfl fl_Walker_22 hthis rfl ?_
              refine qb_iload_n hX 23 rfl rfl ?_
              refine qb_iload hX 24 rfl rfl ?_
              refine qb_iload_n hX 25 rfl rfl ?_
              refine qb_iload hX 26 rfl rfl ?_
              refine qb_callI hX 27 rfl cv_Walker_68 (jm_Fitter_leftOver (qk_GI hX) (qm_rf this 1) p1 s2 p3 p4 (kf_Walker_1 hthis) ) (ci := 0) (kf_Walker_1 hthis) ⟨rfl, rfl, rfl, by decide, by decide⟩ rfl (by exact Nat.le_of_ble_eq_true rfl) (fun x6 => ?_)
              exact qb_exit (fun σ h => qj_goto hX 28 rfl (by decide) (qj_wk (ρ' := [some (.ref (qx_ad X this)), some (.int p1), some (.int p2), some (.int p3), some (.int p4), some (.ref (qx_ad X p5)), some (.int s2), none]) (qw_s (qw_s (qw_s (qw_s (qw_s (qw_s (qw_s (qw_n (qw_0))))))))) h))
          · intro s5
            refine qb_istore hX 30 ([some (.ref (qx_ad X this)), some (.int p1), some (.int p2), some (.int p3), some (.int p4), some (.ref (qx_ad X p5)), some (.int s2), some (.int s5)]) rfl (by decide) rfl ?_
            refine qb_iload hX 31 rfl rfl ?_
            refine qb_iconst hX 32 (-1) rfl (by decide) ?_
            refine qb_join 95 (fun s7 => [some (.ref (qx_ad X this)), some (.int p1), some (.int p2), some (.int p3), some (.int p4), some (.ref (qx_ad X p5)), some (.int s2), none]) (fun s7 => []) ?_ ?_
            ·
              refine qb_iceq hX 33 95 rfl (by decide) ?_ ?_
              ·
                exact qb_exit (fun σ h => qj_wk (ρ' := [some (.ref (qx_ad X this)), some (.int p1), some (.int p2), some (.int p3), some (.int p4), some (.ref (qx_ad X p5)), some (.int s2), none]) (qw_s (qw_s (qw_s (qw_s (qw_s (qw_s (qw_s (qw_n (qw_0))))))))) h)
              ·
                refine qb_aload hX 34 rfl rfl ?_
                refine qb_iload hX 35 rfl rfl ?_
                refine qb_iald hX 36 rfl hp5 (fun x8 => ?_)
                refine qb_iconst hX 37 (-1) rfl (by decide) ?_
                refine qb_join2 88 (fun s9 => [some (.ref (qx_ad X this)), some (.int p1), some (.int p2), some (.int p3), some (.int p4), some (.ref (qx_ad X p5)), some (.int s2), some (.int s5)]) (fun s9 => []) ?_ ?_
                ·
                  refine qb_iceq hX 38 88 rfl (by decide) ?_ ?_
                  ·
                    exact qb_exit (fun σ h => qj_wk (ρ' := [some (.ref (qx_ad X this)), some (.int p1), some (.int p2), some (.int p3), some (.int p4), some (.ref (qx_ad X p5)), some (.int s2), some (.int s5)]) (qw_s (qw_s (qw_s (qw_s (qw_s (qw_s (qw_s (qw_s (qw_0))))))))) h)
                  ·
                    refine qb_iload hX 39 rfl rfl ?_
                    refine qb_aload hX 40 rfl rfl ?_
                    refine qb_iload hX 41 rfl rfl ?_
                    refine qb_iald hX 42 rfl hp5 (fun x10 => ?_)
                    refine qb_icge hX 43 95 rfl (by decide) ?_ ?_
                    ·
                      exact qb_exit (fun σ h => qj_wk (ρ' := [some (.ref (qx_ad X this)), some (.int p1), some (.int p2), some (.int p3), some (.int p4), some (.ref (qx_ad X p5)), some (.int s2), none]) (qw_s (qw_s (qw_s (qw_s (qw_s (qw_s (qw_s (qw_n (qw_0))))))))) h)
                    ·
                      exact qb_exit (fun σ h => qj_wk (ρ' := [some (.ref (qx_ad X this)), some (.int p1), some (.int p2), some (.int p3), some (.int p4), some (.ref (qx_ad X p5)), some (.int s2), some (.int s5)]) (qw_s (qw_s (qw_s (qw_s (qw_s (qw_s (qw_s (qw_s (qw_0))))))))) h)
                · intro s9
                  refine qb_aload hX 44 rfl rfl ?_
                  refine qb_iload hX 45 rfl rfl ?_
                  refine qb_iload hX 46 rfl rfl ?_
                  refine qb_iast hX 47 rfl hp5 ?_
                  exact qb_exit (fun σ h => qj_wk (ρ' := [some (.ref (qx_ad X this)), some (.int p1), some (.int p2), some (.int p3), some (.int p4), some (.ref (qx_ad X p5)), some (.int s2), none]) (qw_s (qw_s (qw_s (qw_s (qw_s (qw_s (qw_s (qw_n (qw_0))))))))) h)
            · intro s7
              refine qb_iinc hX 48 1 (fun x11 => [some (.ref (qx_ad X this)), some (.int p1), some (.int p2), some (.int p3), some (.int p4), some (.ref (qx_ad X p5)), some (.int x11), none]) rfl (by decide) (by decide) rfl (fun _ => rfl) (fun x11 => ?_)
              exact qb_exit (fun σ h => qj_goto hX 49 rfl (by decide) (qj_wk (ρ' := [some (.ref (qx_ad X this)), some (.int p1), some (.int p2), some (.int p3), some (.int p4), some (.ref (qx_ad X p5)), some (.int x11), none]) (qw_s (qw_s (qw_s (qw_s (qw_s (qw_s (qw_s (qw_n (qw_0))))))))) h))
  · intro s1
    exact qb_vret hX 50 rfl hR (fun _ h => h)
theorem jm_Walker_stepFarther {l : Launch} {G : qm_G} (hG : qm_GI G) (this : Nat) (p1 : Int32) (p2 : Int32) (p3 : Int32) (p4 : Int32) (p5 : Nat) (hthis : (qm_kd this).1 = 17) (hp5 : (qm_kd p5).1 = 1) : qm_MV l G jy_Walker_stepFarther prog_9_method_3_code 8 2 50 [.ref (G.1 this), .int p1, .int p2, .int p3, .int p4, .ref (G.1 p5)] (jf_Walker_stepFarther this p1 p2 p3 p4 p5) :=
  qm_metV (by decide +kernel) jd_Walker_stepFarther (fun v hv => by simp only [List.mem_cons, List.not_mem_nil, or_false] at hv; rcases hv with rfl | rfl | rfl | rfl | rfl | rfl <;> rfl) (by exact Nat.le_of_ble_eq_true rfl) hG (fun X hl hg hX σ0 hR => by subst hl; subst hg; exact jb_Walker_stepFarther hX hR this p1 p2 p3 p4 p5 hthis hp5)
def jl_Walker_farthest : List qm_I := [(0, .iconst 0, 1, 1), (1, .aload_n 0, 1, 2), (2, .getfield 15, 3, 5), (5, .getfield 31, 3, 8), (8, .iload_n 1, 1, 9), (9, .invokestatic 37, 3, 12), (12, .invokestatic 41, 3, 15), (15, .istore 4, 2, 17), (17, .bipush 90, 2, 19), (19, .aload_n 0, 1, 20), (20, .getfield 15, 3, 23), (23, .getfield 47, 3, 26), (26, .iload_n 1, 1, 27), (27, .invokestatic 37, 3, 30), (30, .invokestatic 50, 3, 33), (33, .istore 5, 2, 35), (35, .iload 4, 2, 37), (37, .iload 5, 2, 39), (39, .if_icmp .le 6, 3, 42), (42, .bipush (-2), 2, 44), (44, .ireturn, 1, 45), (45, .aload_n 0, 1, 46), (46, .getfield 25, 3, 49), (49, .iconst 0, 1, 50), (50, .aaload, 1, 51), (51, .iconst (-1), 1, 52), (52, .invokestatic 53, 3, 55), (55, .aload_n 0, 1, 56), (56, .getfield 25, 3, 59), (59, .iconst 0, 1, 60), (60, .aaload, 1, 61), (61, .iload 4, 2, 63), (63, .iconst 0, 1, 64), (64, .iastore, 1, 65), (65, .iconst 0, 1, 66), (66, .istore 6, 2, 68), (68, .iload 6, 2, 70), (70, .iload_n 2, 1, 71), (71, .if_icmp .ge 81, 3, 74), (74, .aload_n 0, 1, 75), (75, .getfield 25, 3, 78), (78, .iload 6, 2, 80), (80, .iconst 1, 1, 81), (81, .iand, 1, 82), (82, .aaload, 1, 83), (83, .astore 7, 2, 85), (85, .aload_n 0, 1, 86), (86, .getfield 25, 3, 89), (89, .iload 6, 2, 91), (91, .iconst 1, 1, 92), (92, .iadd, 1, 93), (93, .iconst 1, 1, 94), (94, .iand, 1, 95), (95, .aaload, 1, 96), (96, .astore 8, 2, 98), (98, .aload 8, 2, 100), (100, .iconst (-1), 1, 101), (101, .invokestatic 53, 3, 104), (104, .iload 4, 2, 106), (106, .istore 9, 2, 108), (108, .iload 9, 2, 110), (110, .iload 5, 2, 112), (112, .if_icmp .gt 34, 3, 115), (115, .aload 7, 2, 117), (117, .iload 9, 2, 119), (119, .iaload, 1, 120), (120, .iconst (-1), 1, 121), (121, .if_icmp .eq 19, 3, 124), (124, .aload_n 0, 1, 125), (125, .iload 9, 2, 127), (127, .iload 5, 2, 129), (129, .aload 7, 2, 131), (131, .iload 9, 2, 133), (133, .iaload, 1, 134), (134, .iload_n 3, 1, 135), (135, .aload 8, 2, 137), (137, .invokevirtual 57, 3, 140), (140, .iinc 9 1, 3, 143), (143, .goto (-35), 3, 146), (146, .iinc 6 1, 3, 149), (149, .goto (-81), 3, 152), (152, .iload 5, 2, 154), (154, .istore 6, 2, 156), (156, .iload 6, 2, 158), (158, .iload 4, 2, 160), (160, .if_icmp .lt 27, 3, 163), (163, .aload_n 0, 1, 164), (164, .getfield 25, 3, 167), (167, .iload_n 2, 1, 168), (168, .iconst 1, 1, 169), (169, .iand, 1, 170), (170, .aaload, 1, 171), (171, .iload 6, 2, 173), (173, .iaload, 1, 174), (174, .iconst (-1), 1, 175), (175, .if_icmp .eq 6, 3, 178), (178, .iload 6, 2, 180), (180, .ireturn, 1, 181), (181, .iinc 6 (-1), 3, 184), (184, .goto (-28), 3, 187), (187, .bipush (-2), 2, 189), (189, .ireturn, 1, 190)]
theorem jd_Walker_farthest : qm_D prog_9_method_2_code jl_Walker_farthest := qm_D_of (by decide +kernel)
noncomputable def jf_Walker_farthest (this : Nat) (p1 : Int32) (p2 : Int32) (p3 : Int32) : qm_M Int32 :=
  mB (jf_Top_at (qm_rf (qm_rf this 0) 16) p1) fun x1 =>
  mB (jf_Math_max 0 x1) fun x2 =>
  mB (jf_Top_at (qm_rf (qm_rf this 0) 17) p1) fun x3 =>
  mB (jf_Math_min 90 x3) fun x4 =>
  if x2 ≤ x4 then
    mB (mLr (qm_rf this 2) 0) fun r5 =>
    mB (jf_Walker_fillRow r5 (-1)) fun _ =>
    mB (mLr (qm_rf this 2) 0) fun r6 =>
    mB (mSt r6 x2 0) fun _ =>
    mB (α := Unit) (
      mW (S := Int32) (α := Unit) (fun s8 =>
        if p2 ≤ s8 then
          mP (Sum.inr ())
        else
          mB (mLr (qm_rf this 2) (s8 &&& 1)) fun r9 =>
          mB (mLr (qm_rf this 2) ((s8 + 1) &&& 1)) fun r10 =>
          mB (jf_Walker_fillRow r10 (-1)) fun _ =>
          mB (α := Unit) (
            mW (S := Int32) (α := Unit) (fun s12 =>
              if x4 < s12 then
                mP (Sum.inr ())
              else
                mB (mLd r9 s12) fun x13 =>
                mB (α := Unit) (
                  if x13 = (-1) then
                    mP ()
                  else
                    mB (mLd r9 s12) fun x15 =>
                    mB (jf_Walker_stepFarther this s12 x4 x15 p3 r10) fun _ =>
                    mP ()) fun s14 =>
                mB (mP (s12 + 1)) fun x16 =>
                mP (Sum.inl x16)) x2) fun s11 =>
          mB (mP (s8 + 1)) fun x17 =>
          mP (Sum.inl x17)) 0) fun s7 =>
    mB (α := (Unit ⊕ Int32)) (
      mW (S := Int32) (α := (Unit ⊕ Int32)) (fun s19 =>
        if s19 < x2 then
          mP (Sum.inr (Sum.inl ()))
        else
          mB (mLr (qm_rf this 2) (p2 &&& 1)) fun r20 =>
          mB (mLd r20 s19) fun x21 =>
          if x21 = (-1) then
            mB (mP (s19 + (-1))) fun x22 =>
            mP (Sum.inl x22)
          else
            mP (Sum.inr (Sum.inr s19))) x4) (Sum.elim (fun s18 =>
      mP (-2)) mP)
  else
    mP (-2)
set_option maxRecDepth 20000 in
set_option maxHeartbeats 4000000 in
theorem jb_Walker_farthest {X : qm_X} (hX : qm_ok X qr_Walker prog_9_method_2_code 10 3 77 jl_Walker_farthest) {r0 : Int32} {σ0 : qm_Mem} (hR : qm_RI X r0 σ0 .int) (this : Nat) (p1 : Int32) (p2 : Int32) (p3 : Int32) (hthis : (qm_kd this).1 = 17) : qm_B X (jf_Walker_farthest this p1 p2 p3) 0 [some (.ref (qx_ad X this)), some (.int p1), some (.int p2), some (.int p3), none, none, none, none, none, none] [] (fun r σ1 => r = r0 ∧ σ1 = σ0) := by
  unfold jf_Walker_farthest
  refine qb_iconst hX 0 0 rfl (by decide) ?_
  refine qb_aload_n hX 1 rfl rfl ?_
  refine qb_getR hX 2 rfl fl_Walker_15 hthis rfl ?_
  refine qb_getR hX 3 rfl fl_Walker_31 (kf_Walker_0 hthis) rfl ?_
  refine qb_iload_n hX 4 rfl rfl ?_
  refine qb_calNI hX 5 rfl cv_Walker_37 (jm_Top_at (qk_GI hX) (qm_rf (qm_rf this 0) 16) p1 (kf_Flow_16 (kf_Walker_0 hthis))) ⟨rfl, by decide, by decide⟩ rfl (by exact Nat.le_of_ble_eq_true rfl) (fun x1 => ?_)
  refine qb_mmax hX 6 rfl cv_Walker_41 (by decide) (by exact Nat.le_of_ble_eq_true rfl) (fun x2 => ?_)
  refine qb_istore hX 7 ([some (.ref (qx_ad X this)), some (.int p1), some (.int p2), some (.int p3), some (.int x2), none, none, none, none, none]) rfl (by decide) rfl ?_
  refine qb_bipush hX 8 90 rfl (by decide) ?_
  refine qb_aload_n hX 9 rfl rfl ?_
  refine qb_getR hX 10 rfl fl_Walker_15 hthis rfl ?_
  refine qb_getR hX 11 rfl fl_Walker_47 (kf_Walker_0 hthis) rfl ?_
  refine qb_iload_n hX 12 rfl rfl ?_
  refine qb_calNI hX 13 rfl cv_Walker_37 (jm_Top_at (qk_GI hX) (qm_rf (qm_rf this 0) 17) p1 (kf_Flow_17 (kf_Walker_0 hthis))) ⟨rfl, by decide, by decide⟩ rfl (by exact Nat.le_of_ble_eq_true rfl) (fun x3 => ?_)
  refine qb_mmin hX 14 rfl cv_Walker_50 (by decide) (by exact Nat.le_of_ble_eq_true rfl) (fun x4 => ?_)
  refine qb_istore hX 15 ([some (.ref (qx_ad X this)), some (.int p1), some (.int p2), some (.int p3), some (.int x2), some (.int x4), none, none, none, none]) rfl (by decide) rfl ?_
  refine qb_iload hX 16 rfl rfl ?_
  refine qb_iload hX 17 rfl rfl ?_
  refine qb_icle hX 18 45 rfl (by decide) ?_ ?_
  ·
    refine qb_aload_n hX 21 rfl rfl ?_
    refine qb_getR hX 22 rfl fl_Walker_25 hthis rfl ?_
    refine qb_iconst hX 23 0 rfl (by decide) ?_
    refine qb_aald hX 24 rfl (Or.inl (kf_Walker_2 hthis)) (ka_4 (kf_Walker_2 hthis)) (fun r5 hr5 => ?_)
    refine qb_iconst hX 25 (-1) rfl (by decide) ?_
    refine qb_calSV hX 26 rfl cv_Walker_53 (jm_Walker_fillRow (qk_GI hX) r5 (-1) hr5) ⟨rfl, by decide, by decide⟩ rfl (by exact Nat.le_of_ble_eq_true rfl) ?_
    refine qb_aload_n hX 27 rfl rfl ?_
    refine qb_getR hX 28 rfl fl_Walker_25 hthis rfl ?_
    refine qb_iconst hX 29 0 rfl (by decide) ?_
    refine qb_aald hX 30 rfl (Or.inl (kf_Walker_2 hthis)) (ka_4 (kf_Walker_2 hthis)) (fun r6 hr6 => ?_)
    refine qb_iload hX 31 rfl rfl ?_
    refine qb_iconst hX 32 0 rfl (by decide) ?_
    refine qb_iast hX 33 rfl hr6 ?_
    refine qb_iconst hX 34 0 rfl (by decide) ?_
    refine qb_istore hX 35 ([some (.ref (qx_ad X this)), some (.int p1), some (.int p2), some (.int p3), some (.int x2), some (.int x4), some (.int 0), none, none, none]) rfl (by decide) rfl ?_
    refine qb_join 152 (fun s7 => [some (.ref (qx_ad X this)), none, some (.int p2), none, some (.int x2), some (.int x4), none, none, none, none]) (fun s7 => []) ?_ ?_
    ·
      refine qb_loopw (0) (fun s8 => [some (.ref (qx_ad X this)), none, some (.int p2), some (.int p3), some (.int x2), some (.int x4), some (.int s8), none, none, none]) (qw_s (qw_n (qw_s (qw_s (qw_s (qw_s (qw_s (qw_n (qw_n (qw_n (qw_0))))))))))) (fun s8 => ?_)
      refine qb_iload hX 36 rfl rfl ?_
      refine qb_iload_n hX 37 rfl rfl ?_
      refine qb_icge hX 38 152 rfl (by decide) ?_ ?_
      ·
        exact qb_exit (fun σ h => qj_wk (ρ' := [some (.ref (qx_ad X this)), none, some (.int p2), none, some (.int x2), some (.int x4), none, none, none, none]) (qw_s (qw_n (qw_s (qw_n (qw_s (qw_s (qw_n (qw_n (qw_n (qw_n (qw_0))))))))))) h)
      ·
        refine qb_aload_n hX 39 rfl rfl ?_
        refine qb_getR hX 40 rfl fl_Walker_25 hthis rfl ?_
        refine qb_iload hX 41 rfl rfl ?_
        refine qb_iconst hX 42 1 rfl (by decide) ?_
        refine qb_iand hX 43 rfl ?_
        refine qb_aald hX 44 rfl (Or.inl (kf_Walker_2 hthis)) (ka_4 (kf_Walker_2 hthis)) (fun r9 hr9 => ?_)
        refine qb_astore hX 45 ([some (.ref (qx_ad X this)), none, some (.int p2), some (.int p3), some (.int x2), some (.int x4), some (.int s8), some (.ref (qx_ad X r9)), none, none]) rfl (by decide) rfl ?_
        refine qb_aload_n hX 46 rfl rfl ?_
        refine qb_getR hX 47 rfl fl_Walker_25 hthis rfl ?_
        refine qb_iload hX 48 rfl rfl ?_
        refine qb_iconst hX 49 1 rfl (by decide) ?_
        refine qb_iadd hX 50 rfl ?_
        refine qb_iconst hX 51 1 rfl (by decide) ?_
        refine qb_iand hX 52 rfl ?_
        refine qb_aald hX 53 rfl (Or.inl (kf_Walker_2 hthis)) (ka_4 (kf_Walker_2 hthis)) (fun r10 hr10 => ?_)
        refine qb_astore hX 54 ([some (.ref (qx_ad X this)), none, some (.int p2), some (.int p3), some (.int x2), some (.int x4), some (.int s8), some (.ref (qx_ad X r9)), some (.ref (qx_ad X r10)), none]) rfl (by decide) rfl ?_
        refine qb_aload hX 55 rfl rfl ?_
        refine qb_iconst hX 56 (-1) rfl (by decide) ?_
        refine qb_calSV hX 57 rfl cv_Walker_53 (jm_Walker_fillRow (qk_GI hX) r10 (-1) hr10) ⟨rfl, by decide, by decide⟩ rfl (by exact Nat.le_of_ble_eq_true rfl) ?_
        refine qb_iload hX 58 rfl rfl ?_
        refine qb_istore hX 59 ([some (.ref (qx_ad X this)), none, some (.int p2), some (.int p3), some (.int x2), some (.int x4), some (.int s8), some (.ref (qx_ad X r9)), some (.ref (qx_ad X r10)), some (.int x2)]) rfl (by decide) rfl ?_
        refine qb_join 146 (fun s11 => [some (.ref (qx_ad X this)), none, some (.int p2), some (.int p3), some (.int x2), some (.int x4), some (.int s8), none, none, none]) (fun s11 => []) ?_ ?_
        ·
          refine qb_loopw (x2) (fun s12 => [some (.ref (qx_ad X this)), none, some (.int p2), some (.int p3), some (.int x2), some (.int x4), some (.int s8), some (.ref (qx_ad X r9)), some (.ref (qx_ad X r10)), some (.int s12)]) (qw_s (qw_n (qw_s (qw_s (qw_s (qw_s (qw_s (qw_s (qw_s (qw_s (qw_0))))))))))) (fun s12 => ?_)
          refine qb_iload hX 60 rfl rfl ?_
          refine qb_iload hX 61 rfl rfl ?_
          refine qb_icgt hX 62 146 rfl (by decide) ?_ ?_
          ·
            exact qb_exit (fun σ h => qj_wk (ρ' := [some (.ref (qx_ad X this)), none, some (.int p2), some (.int p3), some (.int x2), some (.int x4), some (.int s8), none, none, none]) (qw_s (qw_n (qw_s (qw_s (qw_s (qw_s (qw_s (qw_n (qw_n (qw_n (qw_0))))))))))) h)
          ·
            refine qb_aload hX 63 rfl rfl ?_
            refine qb_iload hX 64 rfl rfl ?_
            refine qb_iald hX 65 rfl hr9 (fun x13 => ?_)
            refine qb_iconst hX 66 (-1) rfl (by decide) ?_
            refine qb_join 140 (fun s14 => [some (.ref (qx_ad X this)), none, some (.int p2), some (.int p3), some (.int x2), some (.int x4), some (.int s8), some (.ref (qx_ad X r9)), some (.ref (qx_ad X r10)), some (.int s12)]) (fun s14 => []) ?_ ?_
            ·
              refine qb_iceq hX 67 140 rfl (by decide) ?_ ?_
              ·
                exact qb_exit (fun σ h => qj_wk (ρ' := [some (.ref (qx_ad X this)), none, some (.int p2), some (.int p3), some (.int x2), some (.int x4), some (.int s8), some (.ref (qx_ad X r9)), some (.ref (qx_ad X r10)), some (.int s12)]) (qw_s (qw_n (qw_s (qw_s (qw_s (qw_s (qw_s (qw_s (qw_s (qw_s (qw_0))))))))))) h)
              ·
                refine qb_aload_n hX 68 rfl rfl ?_
                refine qb_iload hX 69 rfl rfl ?_
                refine qb_iload hX 70 rfl rfl ?_
                refine qb_aload hX 71 rfl rfl ?_
                refine qb_iload hX 72 rfl rfl ?_
                refine qb_iald hX 73 rfl hr9 (fun x15 => ?_)
                refine qb_iload_n hX 74 rfl rfl ?_
                refine qb_aload hX 75 rfl rfl ?_
                refine qb_callV hX 76 rfl cv_Walker_57 (jm_Walker_stepFarther (qk_GI hX) this s12 x4 x15 p3 r10 hthis hr10) (ci := 7) hthis ⟨rfl, rfl, rfl, by decide, by decide⟩ rfl (by exact Nat.le_of_ble_eq_true rfl) ?_
                exact qb_exit (fun σ h => qj_wk (ρ' := [some (.ref (qx_ad X this)), none, some (.int p2), some (.int p3), some (.int x2), some (.int x4), some (.int s8), some (.ref (qx_ad X r9)), some (.ref (qx_ad X r10)), some (.int s12)]) (qw_s (qw_n (qw_s (qw_s (qw_s (qw_s (qw_s (qw_s (qw_s (qw_s (qw_0))))))))))) h)
            · intro s14
              refine qb_iinc hX 77 1 (fun x16 => [some (.ref (qx_ad X this)), none, some (.int p2), some (.int p3), some (.int x2), some (.int x4), some (.int s8), some (.ref (qx_ad X r9)), some (.ref (qx_ad X r10)), some (.int x16)]) rfl (by decide) (by decide) rfl (fun _ => rfl) (fun x16 => ?_)
              exact qb_exit (fun σ h => qj_goto hX 78 rfl (by decide) (qj_wk (ρ' := [some (.ref (qx_ad X this)), none, some (.int p2), some (.int p3), some (.int x2), some (.int x4), some (.int s8), some (.ref (qx_ad X r9)), some (.ref (qx_ad X r10)), some (.int x16)]) (qw_s (qw_n (qw_s (qw_s (qw_s (qw_s (qw_s (qw_s (qw_s (qw_s (qw_0))))))))))) h))
        · intro s11
          refine qb_iinc hX 79 1 (fun x17 => [some (.ref (qx_ad X this)), none, some (.int p2), some (.int p3), some (.int x2), some (.int x4), some (.int x17), none, none, none]) rfl (by decide) (by decide) rfl (fun _ => rfl) (fun x17 => ?_)
          exact qb_exit (fun σ h => qj_goto hX 80 rfl (by decide) (qj_wk (ρ' := [some (.ref (qx_ad X this)), none, some (.int p2), some (.int p3), some (.int x2), some (.int x4), some (.int x17), none, none, none]) (qw_s (qw_n (qw_s (qw_s (qw_s (qw_s (qw_s (qw_n (qw_n (qw_n (qw_0))))))))))) h))
    · intro s7
      refine qb_iload hX 81 rfl rfl ?_
      refine qb_istore hX 82 ([some (.ref (qx_ad X this)), none, some (.int p2), none, some (.int x2), some (.int x4), some (.int x4), none, none, none]) rfl (by decide) rfl ?_
      refine qb_join2 187 (fun s18 => [none, none, none, none, none, none, none, none, none, none]) (fun s18 => []) ?_ ?_
      ·
        refine qb_loopw (x4) (fun s19 => [some (.ref (qx_ad X this)), none, some (.int p2), none, some (.int x2), none, some (.int s19), none, none, none]) (qw_s (qw_n (qw_s (qw_n (qw_s (qw_n (qw_s (qw_n (qw_n (qw_n (qw_0))))))))))) (fun s19 => ?_)
        refine qb_iload hX 83 rfl rfl ?_
        refine qb_iload hX 84 rfl rfl ?_
        refine qb_iclt hX 85 187 rfl (by decide) ?_ ?_
        ·
          exact qb_exit (fun σ h => qj_wk (ρ' := [none, none, none, none, none, none, none, none, none, none]) (qw_n (qw_n (qw_n (qw_n (qw_n (qw_n (qw_n (qw_n (qw_n (qw_n (qw_0))))))))))) h)
        ·
          refine qb_aload_n hX 86 rfl rfl ?_
          refine qb_getR hX 87 rfl fl_Walker_25 hthis rfl ?_
          refine qb_iload_n hX 88 rfl rfl ?_
          refine qb_iconst hX 89 1 rfl (by decide) ?_
          refine qb_iand hX 90 rfl ?_
          refine qb_aald hX 91 rfl (Or.inl (kf_Walker_2 hthis)) (ka_4 (kf_Walker_2 hthis)) (fun r20 hr20 => ?_)
          refine qb_iload hX 92 rfl rfl ?_
          refine qb_iald hX 93 rfl hr20 (fun x21 => ?_)
          refine qb_iconst hX 94 (-1) rfl (by decide) ?_
          refine qb_iceq hX 95 181 rfl (by decide) ?_ ?_
          ·
            refine qb_iinc hX 98 (-1) (fun x22 => [some (.ref (qx_ad X this)), none, some (.int p2), none, some (.int x2), none, some (.int x22), none, none, none]) rfl (by decide) (by decide) rfl (fun _ => rfl) (fun x22 => ?_)
            exact qb_exit (fun σ h => qj_goto hX 99 rfl (by decide) (qj_wk (ρ' := [some (.ref (qx_ad X this)), none, some (.int p2), none, some (.int x2), none, some (.int x22), none, none, none]) (qw_s (qw_n (qw_s (qw_n (qw_s (qw_n (qw_s (qw_n (qw_n (qw_n (qw_0))))))))))) h))
          ·
            refine qb_iload hX 96 rfl rfl ?_
            exact qb_iret hX 97 rfl hR (fun _ h => h)
      · intro s18
        refine qb_bipush hX 100 (-2) rfl (by decide) ?_
        exact qb_iret hX 101 rfl hR (fun _ h => h)
  ·
    refine qb_bipush hX 19 (-2) rfl (by decide) ?_
    exact qb_iret hX 20 rfl hR (fun _ h => h)
theorem jm_Walker_farthest {l : Launch} {G : qm_G} (hG : qm_GI G) (this : Nat) (p1 : Int32) (p2 : Int32) (p3 : Int32) (hthis : (qm_kd this).1 = 17) : qm_MI l G jy_Walker_farthest prog_9_method_2_code 10 (some .int) 3 77 [.ref (G.1 this), .int p1, .int p2, .int p3] (jf_Walker_farthest this p1 p2 p3) :=
  qm_metI (by decide +kernel) jd_Walker_farthest (fun v hv => by simp only [List.mem_cons, List.not_mem_nil, or_false] at hv; rcases hv with rfl | rfl | rfl | rfl <;> rfl) (by exact Nat.le_of_ble_eq_true rfl) hG rfl (fun X hl hg hX r0 σ0 hR => by subst hl; subst hg; exact jb_Walker_farthest hX hR this p1 p2 p3 hthis)
def jl_Walker_stepWays : List qm_I := [(0, .iload_n 1, 1, 1), (1, .bipush 20, 2, 3), (3, .idiv, 1, 4), (4, .istore 6, 2, 6), (6, .iload_n 1, 1, 7), (7, .bipush 20, 2, 9), (9, .irem, 1, 10), (10, .istore 7, 2, 12), (12, .iload 6, 2, 14), (14, .istore 8, 2, 16), (16, .iload 8, 2, 18), (18, .iload_n 2, 1, 19), (19, .if_icmp .gt 98, 3, 22), (22, .aload_n 0, 1, 23), (23, .getfield 15, 3, 26), (26, .iload 6, 2, 28), (28, .iload 8, 2, 30), (30, .invokevirtual 61, 3, 33), (33, .iload 4, 2, 35), (35, .if_icmp .gt 82, 3, 38), (38, .aload_n 0, 1, 39), (39, .getfield 15, 3, 42), (42, .iload 8, 2, 44), (44, .invokevirtual 64, 3, 47), (47, .ifCond .eq 21, 3, 50), (50, .aload_n 0, 1, 51), (51, .getfield 22, 3, 54), (54, .iload 6, 2, 56), (56, .iload 8, 2, 58), (58, .iload 7, 2, 60), (60, .iload 4, 2, 62), (62, .invokevirtual 68, 3, 65), (65, .goto 4, 3, 68), (68, .iconst (-1), 1, 69), (69, .istore 9, 2, 71), (71, .iload 8, 2, 73), (73, .bipush 20, 2, 75), (75, .imul, 1, 76), (76, .iload 9, 2, 78), (78, .iadd, 1, 79), (79, .istore 10, 2, 81), (81, .iload 9, 2, 83), (83, .iconst (-1), 1, 84), (84, .if_icmp .eq 27, 3, 87), (87, .iload 9, 2, 89), (89, .bipush 20, 2, 91), (91, .if_icmp .ge 20, 3, 94), (94, .iload 10, 2, 96), (96, .aload 5, 2, 98), (98, .arraylength, 1, 99), (99, .if_icmp .ge 12, 3, 102), (102, .aload 5, 2, 104), (104, .iload 10, 2, 106), (106, .dup2, 1, 107), (107, .iaload, 1, 108), (108, .iload_n 3, 1, 109), (109, .iadd, 1, 110), (110, .iastore, 1, 111), (111, .iinc 8 1, 3, 114), (114, .goto (-98), 3, 117), (117, .return_, 1, 118)]
theorem jd_Walker_stepWays : qm_D prog_9_method_5_code jl_Walker_stepWays := qm_D_of (by decide +kernel)
noncomputable def jf_Walker_stepWays (this : Nat) (p1 : Int32) (p2 : Int32) (p3 : Int32) (p4 : Int32) (p5 : Nat) : qm_M Unit :=
  mB (mDv p1 20) fun x1 =>
  mB (mRm p1 20) fun x2 =>
  mB (α := Unit) (
    mW (S := Int32) (α := Unit) (fun s4 =>
      if p2 < s4 then
        mP (Sum.inr ())
      else
        mB (jf_Flow_text (qm_rf this 0) x1 s4) fun x5 =>
        if p4 < x5 then
          mP (Sum.inr ())
        else
          mB (jf_Flow_mayEnd (qm_rf this 0) s4) fun x6 =>
          mB (α := Int32) (
            if x6 = 0 then
              mP (-1)
            else
              mB (jf_Fitter_leftOver (qm_rf this 1) x1 s4 x2 p4) fun x8 =>
              mP x8) fun s7 =>
          mB (mP ((s4 * 20) + s7)) fun x9 =>
          mB (α := Unit) (
            if s7 = (-1) then
              mP ()
            else
              if 20 ≤ s7 then
                mP ()
              else
                if (Int32.ofNat (qm_kd p5).2) ≤ x9 then
                  mP ()
                else
                  mB (mLd p5 x9) fun x11 =>
                  mB (mSt p5 x9 (x11 + p3)) fun _ =>
                  mP ()) fun s10 =>
          mB (mP (s4 + 1)) fun x12 =>
          mP (Sum.inl x12)) x1) fun s3 =>
  mP ()
set_option maxRecDepth 20000 in
set_option maxHeartbeats 4000000 in
theorem jb_Walker_stepWays {X : qm_X} (hX : qm_ok X qr_Walker prog_9_method_5_code 11 2 50 jl_Walker_stepWays) {σ0 : qm_Mem} (hR : qm_RV X σ0) (this : Nat) (p1 : Int32) (p2 : Int32) (p3 : Int32) (p4 : Int32) (p5 : Nat) (hthis : (qm_kd this).1 = 17) (hp5 : (qm_kd p5).1 = 1) : qm_B X (jf_Walker_stepWays this p1 p2 p3 p4 p5) 0 [some (.ref (qx_ad X this)), some (.int p1), some (.int p2), some (.int p3), some (.int p4), some (.ref (qx_ad X p5)), none, none, none, none, none] [] (fun _ σ1 => σ1 = σ0) := by
  unfold jf_Walker_stepWays
  refine qb_iload_n hX 0 rfl rfl ?_
  refine qb_bipush hX 1 20 rfl (by decide) ?_
  refine qb_idiv hX 2 rfl (fun x1 => ?_)
  refine qb_istore hX 3 ([some (.ref (qx_ad X this)), some (.int p1), some (.int p2), some (.int p3), some (.int p4), some (.ref (qx_ad X p5)), some (.int x1), none, none, none, none]) rfl (by decide) rfl ?_
  refine qb_iload_n hX 4 rfl rfl ?_
  refine qb_bipush hX 5 20 rfl (by decide) ?_
  refine qb_irem hX 6 rfl (fun x2 => ?_)
  refine qb_istore hX 7 ([some (.ref (qx_ad X this)), some (.int p1), some (.int p2), some (.int p3), some (.int p4), some (.ref (qx_ad X p5)), some (.int x1), some (.int x2), none, none, none]) rfl (by decide) rfl ?_
  refine qb_iload hX 8 rfl rfl ?_
  refine qb_istore hX 9 ([some (.ref (qx_ad X this)), some (.int p1), some (.int p2), some (.int p3), some (.int p4), some (.ref (qx_ad X p5)), some (.int x1), some (.int x2), some (.int x1), none, none]) rfl (by decide) rfl ?_
  refine qb_join 117 (fun s3 => [none, none, none, none, none, none, none, none, none, none, none]) (fun s3 => []) ?_ ?_
  ·
    refine qb_loopw (x1) (fun s4 => [some (.ref (qx_ad X this)), none, some (.int p2), some (.int p3), some (.int p4), some (.ref (qx_ad X p5)), some (.int x1), some (.int x2), some (.int s4), none, none]) (qw_s (qw_n (qw_s (qw_s (qw_s (qw_s (qw_s (qw_s (qw_s (qw_n (qw_n (qw_0)))))))))))) (fun s4 => ?_)
    refine qb_iload hX 10 rfl rfl ?_
    refine qb_iload_n hX 11 rfl rfl ?_
    refine qb_icgt hX 12 117 rfl (by decide) ?_ ?_
    ·
      exact qb_exit (fun σ h => qj_wk (ρ' := [none, none, none, none, none, none, none, none, none, none, none]) (qw_n (qw_n (qw_n (qw_n (qw_n (qw_n (qw_n (qw_n (qw_n (qw_n (qw_n (qw_0)))))))))))) h)
    ·
      refine qb_aload_n hX 13 rfl rfl ?_
      refine qb_getR hX 14 rfl fl_Walker_15 hthis rfl ?_
      refine qb_iload hX 15 rfl rfl ?_
      refine qb_iload hX 16 rfl rfl ?_
      refine qb_callI hX 17 rfl cv_Walker_61 (jm_Flow_text (qk_GI hX) (qm_rf this 0) x1 s4 (kf_Walker_0 hthis) ) (ci := 1) (kf_Walker_0 hthis) ⟨rfl, rfl, rfl, by decide, by decide⟩ rfl (by exact Nat.le_of_ble_eq_true rfl) (fun x5 => ?_)
      refine qb_iload hX 18 rfl rfl ?_
      refine qb_icgt hX 19 117 rfl (by decide) ?_ ?_
      ·
        exact qb_exit (fun σ h => qj_wk (ρ' := [none, none, none, none, none, none, none, none, none, none, none]) (qw_n (qw_n (qw_n (qw_n (qw_n (qw_n (qw_n (qw_n (qw_n (qw_n (qw_n (qw_0)))))))))))) h)
      ·
        refine qb_aload_n hX 20 rfl rfl ?_
        refine qb_getR hX 21 rfl fl_Walker_15 hthis rfl ?_
        refine qb_iload hX 22 rfl rfl ?_
        refine qb_callI hX 23 rfl cv_Walker_64 (jm_Flow_mayEnd (qk_GI hX) (qm_rf this 0) s4 (kf_Walker_0 hthis) ) (ci := 1) (kf_Walker_0 hthis) ⟨rfl, rfl, rfl, by decide, by decide⟩ rfl (by exact Nat.le_of_ble_eq_true rfl) (fun x6 => ?_)
        refine qb_join 69 (fun s7 => [some (.ref (qx_ad X this)), none, some (.int p2), some (.int p3), some (.int p4), some (.ref (qx_ad X p5)), some (.int x1), some (.int x2), some (.int s4), none, none]) (fun s7 => [.int s7]) ?_ ?_
        ·
          refine qb_ifeq hX 24 68 rfl (by decide) ?_ ?_
          ·
            refine qb_iconst hX 33 (-1) rfl (by decide) ?_
            exact qb_exit (fun σ h => qj_wk (ρ' := [some (.ref (qx_ad X this)), none, some (.int p2), some (.int p3), some (.int p4), some (.ref (qx_ad X p5)), some (.int x1), some (.int x2), some (.int s4), none, none]) (qw_s (qw_n (qw_s (qw_s (qw_s (qw_s (qw_s (qw_s (qw_s (qw_n (qw_n (qw_0)))))))))))) h)
          ·
            refine qb_aload_n hX 25 rfl rfl ?_
            refine qb_getR hX 26 rfl fl_Walker_22 hthis rfl ?_
            refine qb_iload hX 27 rfl rfl ?_
            refine qb_iload hX 28 rfl rfl ?_
            refine qb_iload hX 29 rfl rfl ?_
            refine qb_iload hX 30 rfl rfl ?_
            refine qb_callI hX 31 rfl cv_Walker_68 (jm_Fitter_leftOver (qk_GI hX) (qm_rf this 1) x1 s4 x2 p4 (kf_Walker_1 hthis) ) (ci := 0) (kf_Walker_1 hthis) ⟨rfl, rfl, rfl, by decide, by decide⟩ rfl (by exact Nat.le_of_ble_eq_true rfl) (fun x8 => ?_)
            exact qb_exit (fun σ h => qj_goto hX 32 rfl (by decide) (qj_wk (ρ' := [some (.ref (qx_ad X this)), none, some (.int p2), some (.int p3), some (.int p4), some (.ref (qx_ad X p5)), some (.int x1), some (.int x2), some (.int s4), none, none]) (qw_s (qw_n (qw_s (qw_s (qw_s (qw_s (qw_s (qw_s (qw_s (qw_n (qw_n (qw_0)))))))))))) h))
        · intro s7
          refine qb_istore hX 34 ([some (.ref (qx_ad X this)), none, some (.int p2), some (.int p3), some (.int p4), some (.ref (qx_ad X p5)), some (.int x1), some (.int x2), some (.int s4), some (.int s7), none]) rfl (by decide) rfl ?_
          refine qb_iload hX 35 rfl rfl ?_
          refine qb_bipush hX 36 20 rfl (by decide) ?_
          refine qb_imul hX 37 rfl ?_
          refine qb_iload hX 38 rfl rfl ?_
          refine qb_iadd hX 39 rfl ?_
          refine qb_istoreL hX 40 (fun x9 => [some (.ref (qx_ad X this)), none, some (.int p2), some (.int p3), some (.int p4), some (.ref (qx_ad X p5)), some (.int x1), some (.int x2), some (.int s4), some (.int s7), some (.int x9)]) rfl (by decide) (fun _ => rfl) (fun x9 => ?_)
          refine qb_iload hX 41 rfl rfl ?_
          refine qb_iconst hX 42 (-1) rfl (by decide) ?_
          refine qb_join 111 (fun s10 => [some (.ref (qx_ad X this)), none, some (.int p2), some (.int p3), some (.int p4), some (.ref (qx_ad X p5)), some (.int x1), some (.int x2), some (.int s4), none, none]) (fun s10 => []) ?_ ?_
          ·
            refine qb_iceq hX 43 111 rfl (by decide) ?_ ?_
            ·
              exact qb_exit (fun σ h => qj_wk (ρ' := [some (.ref (qx_ad X this)), none, some (.int p2), some (.int p3), some (.int p4), some (.ref (qx_ad X p5)), some (.int x1), some (.int x2), some (.int s4), none, none]) (qw_s (qw_n (qw_s (qw_s (qw_s (qw_s (qw_s (qw_s (qw_s (qw_n (qw_n (qw_0)))))))))))) h)
            ·
              refine qb_iload hX 44 rfl rfl ?_
              refine qb_bipush hX 45 20 rfl (by decide) ?_
              refine qb_icge hX 46 111 rfl (by decide) ?_ ?_
              ·
                exact qb_exit (fun σ h => qj_wk (ρ' := [some (.ref (qx_ad X this)), none, some (.int p2), some (.int p3), some (.int p4), some (.ref (qx_ad X p5)), some (.int x1), some (.int x2), some (.int s4), none, none]) (qw_s (qw_n (qw_s (qw_s (qw_s (qw_s (qw_s (qw_s (qw_s (qw_n (qw_n (qw_0)))))))))))) h)
              ·
                refine qb_iload hX 47 rfl rfl ?_
                refine qb_aload hX 48 rfl rfl ?_
                refine qb_alen hX 49 (Int32.ofNat (qm_kd p5).2) rfl (Or.inl hp5) rfl ?_
                refine qb_icge hX 50 111 rfl (by decide) ?_ ?_
                ·
                  exact qb_exit (fun σ h => qj_wk (ρ' := [some (.ref (qx_ad X this)), none, some (.int p2), some (.int p3), some (.int p4), some (.ref (qx_ad X p5)), some (.int x1), some (.int x2), some (.int s4), none, none]) (qw_s (qw_n (qw_s (qw_s (qw_s (qw_s (qw_s (qw_s (qw_s (qw_n (qw_n (qw_0)))))))))))) h)
                ·
                  refine qb_aload hX 51 rfl rfl ?_
                  refine qb_iload hX 52 rfl rfl ?_
                  refine qb_dup2 hX 53 rfl rfl rfl ?_
                  refine qb_iald hX 54 rfl hp5 (fun x11 => ?_)
                  refine qb_iload_n hX 55 rfl rfl ?_
                  refine qb_iadd hX 56 rfl ?_
                  refine qb_iast hX 57 rfl hp5 ?_
                  exact qb_exit (fun σ h => qj_wk (ρ' := [some (.ref (qx_ad X this)), none, some (.int p2), some (.int p3), some (.int p4), some (.ref (qx_ad X p5)), some (.int x1), some (.int x2), some (.int s4), none, none]) (qw_s (qw_n (qw_s (qw_s (qw_s (qw_s (qw_s (qw_s (qw_s (qw_n (qw_n (qw_0)))))))))))) h)
          · intro s10
            refine qb_iinc hX 58 1 (fun x12 => [some (.ref (qx_ad X this)), none, some (.int p2), some (.int p3), some (.int p4), some (.ref (qx_ad X p5)), some (.int x1), some (.int x2), some (.int x12), none, none]) rfl (by decide) (by decide) rfl (fun _ => rfl) (fun x12 => ?_)
            exact qb_exit (fun σ h => qj_goto hX 59 rfl (by decide) (qj_wk (ρ' := [some (.ref (qx_ad X this)), none, some (.int p2), some (.int p3), some (.int p4), some (.ref (qx_ad X p5)), some (.int x1), some (.int x2), some (.int x12), none, none]) (qw_s (qw_n (qw_s (qw_s (qw_s (qw_s (qw_s (qw_s (qw_s (qw_n (qw_n (qw_0)))))))))))) h))
  · intro s3
    exact qb_vret hX 60 rfl hR (fun _ h => h)
theorem jm_Walker_stepWays {l : Launch} {G : qm_G} (hG : qm_GI G) (this : Nat) (p1 : Int32) (p2 : Int32) (p3 : Int32) (p4 : Int32) (p5 : Nat) (hthis : (qm_kd this).1 = 17) (hp5 : (qm_kd p5).1 = 1) : qm_MV l G jy_Walker_stepWays prog_9_method_5_code 11 2 50 [.ref (G.1 this), .int p1, .int p2, .int p3, .int p4, .ref (G.1 p5)] (jf_Walker_stepWays this p1 p2 p3 p4 p5) :=
  qm_metV (by decide +kernel) jd_Walker_stepWays (fun v hv => by simp only [List.mem_cons, List.not_mem_nil, or_false] at hv; rcases hv with rfl | rfl | rfl | rfl | rfl | rfl <;> rfl) (by exact Nat.le_of_ble_eq_true rfl) hG (fun X hl hg hX σ0 hR => by subst hl; subst hg; exact jb_Walker_stepWays hX hR this p1 p2 p3 p4 p5 hthis hp5)
def jl_Walker_rowsOfEnds : List qm_I := [(0, .iconst 0, 1, 1), (1, .aload_n 0, 1, 2), (2, .getfield 15, 3, 5), (5, .getfield 31, 3, 8), (8, .iload_n 1, 1, 9), (9, .invokestatic 37, 3, 12), (12, .invokestatic 41, 3, 15), (15, .istore 4, 2, 17), (17, .bipush 90, 2, 19), (19, .aload_n 0, 1, 20), (20, .getfield 15, 3, 23), (23, .getfield 47, 3, 26), (26, .iload_n 1, 1, 27), (27, .invokestatic 37, 3, 30), (30, .invokestatic 50, 3, 33), (33, .istore 5, 2, 35), (35, .iload 4, 2, 37), (37, .iload 5, 2, 39), (39, .if_icmp .le 5, 3, 42), (42, .iconst 0, 1, 43), (43, .ireturn, 1, 44), (44, .aload_n 0, 1, 45), (45, .getfield 28, 3, 48), (48, .iconst 0, 1, 49), (49, .aaload, 1, 50), (50, .iconst 0, 1, 51), (51, .invokestatic 53, 3, 54), (54, .aload_n 0, 1, 55), (55, .getfield 28, 3, 58), (58, .iconst 0, 1, 59), (59, .aaload, 1, 60), (60, .iload 4, 2, 62), (62, .bipush 20, 2, 64), (64, .imul, 1, 65), (65, .iconst 1, 1, 66), (66, .iastore, 1, 67), (67, .iconst 0, 1, 68), (68, .istore 6, 2, 70), (70, .iload 6, 2, 72), (72, .iload_n 2, 1, 73), (73, .if_icmp .ge 96, 3, 76), (76, .aload_n 0, 1, 77), (77, .getfield 28, 3, 80), (80, .iload 6, 2, 82), (82, .iconst 1, 1, 83), (83, .iand, 1, 84), (84, .aaload, 1, 85), (85, .astore 7, 2, 87), (87, .aload_n 0, 1, 88), (88, .getfield 28, 3, 91), (91, .iload 6, 2, 93), (93, .iconst 1, 1, 94), (94, .iadd, 1, 95), (95, .iconst 1, 1, 96), (96, .iand, 1, 97), (97, .aaload, 1, 98), (98, .astore 8, 2, 100), (100, .aload 8, 2, 102), (102, .iconst 0, 1, 103), (103, .invokestatic 53, 3, 106), (106, .iload 4, 2, 108), (108, .bipush 20, 2, 110), (110, .imul, 1, 111), (111, .istore 9, 2, 113), (113, .iload 9, 2, 115), (115, .iload 5, 2, 117), (117, .iconst 1, 1, 118), (118, .iadd, 1, 119), (119, .bipush 20, 2, 121), (121, .imul, 1, 122), (122, .if_icmp .ge 41, 3, 125), (125, .iload 9, 2, 127), (127, .aload 7, 2, 129), (129, .arraylength, 1, 130), (130, .if_icmp .ge 33, 3, 133), (133, .aload 7, 2, 135), (135, .iload 9, 2, 137), (137, .iaload, 1, 138), (138, .ifCond .le 19, 3, 141), (141, .aload_n 0, 1, 142), (142, .iload 9, 2, 144), (144, .iload 5, 2, 146), (146, .aload 7, 2, 148), (148, .iload 9, 2, 150), (150, .iaload, 1, 151), (151, .iload_n 3, 1, 152), (152, .aload 8, 2, 154), (154, .invokevirtual 74, 3, 157), (157, .iinc 9 1, 3, 160), (160, .goto (-47), 3, 163), (163, .iinc 6 1, 3, 166), (166, .goto (-96), 3, 169), (169, .aload_n 0, 1, 170), (170, .getfield 28, 3, 173), (173, .iload_n 2, 1, 174), (174, .iconst 1, 1, 175), (175, .iand, 1, 176), (176, .aaload, 1, 177), (177, .iload 5, 2, 179), (179, .bipush 20, 2, 181), (181, .imul, 1, 182), (182, .iaload, 1, 183), (183, .ireturn, 1, 184)]
theorem jd_Walker_rowsOfEnds : qm_D prog_9_method_4_code jl_Walker_rowsOfEnds := qm_D_of (by decide +kernel)
noncomputable def jf_Walker_rowsOfEnds (this : Nat) (p1 : Int32) (p2 : Int32) (p3 : Int32) : qm_M Int32 :=
  mB (jf_Top_at (qm_rf (qm_rf this 0) 16) p1) fun x1 =>
  mB (jf_Math_max 0 x1) fun x2 =>
  mB (jf_Top_at (qm_rf (qm_rf this 0) 17) p1) fun x3 =>
  mB (jf_Math_min 90 x3) fun x4 =>
  if x2 ≤ x4 then
    mB (mLr (qm_rf this 3) 0) fun r5 =>
    mB (jf_Walker_fillRow r5 0) fun _ =>
    mB (mLr (qm_rf this 3) 0) fun r6 =>
    mB (mSt r6 (x2 * 20) 1) fun _ =>
    mB (α := Unit) (
      mW (S := Int32) (α := Unit) (fun s8 =>
        if p2 ≤ s8 then
          mP (Sum.inr ())
        else
          mB (mLr (qm_rf this 3) (s8 &&& 1)) fun r9 =>
          mB (mLr (qm_rf this 3) ((s8 + 1) &&& 1)) fun r10 =>
          mB (jf_Walker_fillRow r10 0) fun _ =>
          mB (mP (x2 * 20)) fun x11 =>
          mB (α := Unit) (
            mW (S := Int32) (α := Unit) (fun s13 =>
              if ((x4 + 1) * 20) ≤ s13 then
                mP (Sum.inr ())
              else
                if (Int32.ofNat (qm_kd r9).2) ≤ s13 then
                  mP (Sum.inr ())
                else
                  mB (mLd r9 s13) fun x14 =>
                  mB (α := Unit) (
                    if x14 ≤ 0 then
                      mP ()
                    else
                      mB (mLd r9 s13) fun x16 =>
                      mB (jf_Walker_stepWays this s13 x4 x16 p3 r10) fun _ =>
                      mP ()) fun s15 =>
                  mB (mP (s13 + 1)) fun x17 =>
                  mP (Sum.inl x17)) x11) fun s12 =>
          mB (mP (s8 + 1)) fun x18 =>
          mP (Sum.inl x18)) 0) fun s7 =>
    mB (mLr (qm_rf this 3) (p2 &&& 1)) fun r19 =>
    mB (mLd r19 (x4 * 20)) fun x20 =>
    mP x20
  else
    mP 0
set_option maxRecDepth 20000 in
set_option maxHeartbeats 4000000 in
theorem jb_Walker_rowsOfEnds {X : qm_X} (hX : qm_ok X qr_Walker prog_9_method_4_code 10 3 80 jl_Walker_rowsOfEnds) {r0 : Int32} {σ0 : qm_Mem} (hR : qm_RI X r0 σ0 .int) (this : Nat) (p1 : Int32) (p2 : Int32) (p3 : Int32) (hthis : (qm_kd this).1 = 17) : qm_B X (jf_Walker_rowsOfEnds this p1 p2 p3) 0 [some (.ref (qx_ad X this)), some (.int p1), some (.int p2), some (.int p3), none, none, none, none, none, none] [] (fun r σ1 => r = r0 ∧ σ1 = σ0) := by
  unfold jf_Walker_rowsOfEnds
  refine qb_iconst hX 0 0 rfl (by decide) ?_
  refine qb_aload_n hX 1 rfl rfl ?_
  refine qb_getR hX 2 rfl fl_Walker_15 hthis rfl ?_
  refine qb_getR hX 3 rfl fl_Walker_31 (kf_Walker_0 hthis) rfl ?_
  refine qb_iload_n hX 4 rfl rfl ?_
  refine qb_calNI hX 5 rfl cv_Walker_37 (jm_Top_at (qk_GI hX) (qm_rf (qm_rf this 0) 16) p1 (kf_Flow_16 (kf_Walker_0 hthis))) ⟨rfl, by decide, by decide⟩ rfl (by exact Nat.le_of_ble_eq_true rfl) (fun x1 => ?_)
  refine qb_mmax hX 6 rfl cv_Walker_41 (by decide) (by exact Nat.le_of_ble_eq_true rfl) (fun x2 => ?_)
  refine qb_istore hX 7 ([some (.ref (qx_ad X this)), some (.int p1), some (.int p2), some (.int p3), some (.int x2), none, none, none, none, none]) rfl (by decide) rfl ?_
  refine qb_bipush hX 8 90 rfl (by decide) ?_
  refine qb_aload_n hX 9 rfl rfl ?_
  refine qb_getR hX 10 rfl fl_Walker_15 hthis rfl ?_
  refine qb_getR hX 11 rfl fl_Walker_47 (kf_Walker_0 hthis) rfl ?_
  refine qb_iload_n hX 12 rfl rfl ?_
  refine qb_calNI hX 13 rfl cv_Walker_37 (jm_Top_at (qk_GI hX) (qm_rf (qm_rf this 0) 17) p1 (kf_Flow_17 (kf_Walker_0 hthis))) ⟨rfl, by decide, by decide⟩ rfl (by exact Nat.le_of_ble_eq_true rfl) (fun x3 => ?_)
  refine qb_mmin hX 14 rfl cv_Walker_50 (by decide) (by exact Nat.le_of_ble_eq_true rfl) (fun x4 => ?_)
  refine qb_istore hX 15 ([some (.ref (qx_ad X this)), some (.int p1), some (.int p2), some (.int p3), some (.int x2), some (.int x4), none, none, none, none]) rfl (by decide) rfl ?_
  refine qb_iload hX 16 rfl rfl ?_
  refine qb_iload hX 17 rfl rfl ?_
  refine qb_icle hX 18 44 rfl (by decide) ?_ ?_
  ·
    refine qb_aload_n hX 21 rfl rfl ?_
    refine qb_getR hX 22 rfl fl_Walker_28 hthis rfl ?_
    refine qb_iconst hX 23 0 rfl (by decide) ?_
    refine qb_aald hX 24 rfl (Or.inl (kf_Walker_3 hthis)) (ka_4 (kf_Walker_3 hthis)) (fun r5 hr5 => ?_)
    refine qb_iconst hX 25 0 rfl (by decide) ?_
    refine qb_calSV hX 26 rfl cv_Walker_53 (jm_Walker_fillRow (qk_GI hX) r5 0 hr5) ⟨rfl, by decide, by decide⟩ rfl (by exact Nat.le_of_ble_eq_true rfl) ?_
    refine qb_aload_n hX 27 rfl rfl ?_
    refine qb_getR hX 28 rfl fl_Walker_28 hthis rfl ?_
    refine qb_iconst hX 29 0 rfl (by decide) ?_
    refine qb_aald hX 30 rfl (Or.inl (kf_Walker_3 hthis)) (ka_4 (kf_Walker_3 hthis)) (fun r6 hr6 => ?_)
    refine qb_iload hX 31 rfl rfl ?_
    refine qb_bipush hX 32 20 rfl (by decide) ?_
    refine qb_imul hX 33 rfl ?_
    refine qb_iconst hX 34 1 rfl (by decide) ?_
    refine qb_iast hX 35 rfl hr6 ?_
    refine qb_iconst hX 36 0 rfl (by decide) ?_
    refine qb_istore hX 37 ([some (.ref (qx_ad X this)), some (.int p1), some (.int p2), some (.int p3), some (.int x2), some (.int x4), some (.int 0), none, none, none]) rfl (by decide) rfl ?_
    refine qb_join 169 (fun s7 => [some (.ref (qx_ad X this)), none, some (.int p2), none, none, some (.int x4), none, none, none, none]) (fun s7 => []) ?_ ?_
    ·
      refine qb_loopw (0) (fun s8 => [some (.ref (qx_ad X this)), none, some (.int p2), some (.int p3), some (.int x2), some (.int x4), some (.int s8), none, none, none]) (qw_s (qw_n (qw_s (qw_s (qw_s (qw_s (qw_s (qw_n (qw_n (qw_n (qw_0))))))))))) (fun s8 => ?_)
      refine qb_iload hX 38 rfl rfl ?_
      refine qb_iload_n hX 39 rfl rfl ?_
      refine qb_icge hX 40 169 rfl (by decide) ?_ ?_
      ·
        exact qb_exit (fun σ h => qj_wk (ρ' := [some (.ref (qx_ad X this)), none, some (.int p2), none, none, some (.int x4), none, none, none, none]) (qw_s (qw_n (qw_s (qw_n (qw_n (qw_s (qw_n (qw_n (qw_n (qw_n (qw_0))))))))))) h)
      ·
        refine qb_aload_n hX 41 rfl rfl ?_
        refine qb_getR hX 42 rfl fl_Walker_28 hthis rfl ?_
        refine qb_iload hX 43 rfl rfl ?_
        refine qb_iconst hX 44 1 rfl (by decide) ?_
        refine qb_iand hX 45 rfl ?_
        refine qb_aald hX 46 rfl (Or.inl (kf_Walker_3 hthis)) (ka_4 (kf_Walker_3 hthis)) (fun r9 hr9 => ?_)
        refine qb_astore hX 47 ([some (.ref (qx_ad X this)), none, some (.int p2), some (.int p3), some (.int x2), some (.int x4), some (.int s8), some (.ref (qx_ad X r9)), none, none]) rfl (by decide) rfl ?_
        refine qb_aload_n hX 48 rfl rfl ?_
        refine qb_getR hX 49 rfl fl_Walker_28 hthis rfl ?_
        refine qb_iload hX 50 rfl rfl ?_
        refine qb_iconst hX 51 1 rfl (by decide) ?_
        refine qb_iadd hX 52 rfl ?_
        refine qb_iconst hX 53 1 rfl (by decide) ?_
        refine qb_iand hX 54 rfl ?_
        refine qb_aald hX 55 rfl (Or.inl (kf_Walker_3 hthis)) (ka_4 (kf_Walker_3 hthis)) (fun r10 hr10 => ?_)
        refine qb_astore hX 56 ([some (.ref (qx_ad X this)), none, some (.int p2), some (.int p3), some (.int x2), some (.int x4), some (.int s8), some (.ref (qx_ad X r9)), some (.ref (qx_ad X r10)), none]) rfl (by decide) rfl ?_
        refine qb_aload hX 57 rfl rfl ?_
        refine qb_iconst hX 58 0 rfl (by decide) ?_
        refine qb_calSV hX 59 rfl cv_Walker_53 (jm_Walker_fillRow (qk_GI hX) r10 0 hr10) ⟨rfl, by decide, by decide⟩ rfl (by exact Nat.le_of_ble_eq_true rfl) ?_
        refine qb_iload hX 60 rfl rfl ?_
        refine qb_bipush hX 61 20 rfl (by decide) ?_
        refine qb_imul hX 62 rfl ?_
        refine qb_istoreL hX 63 (fun x11 => [some (.ref (qx_ad X this)), none, some (.int p2), some (.int p3), some (.int x2), some (.int x4), some (.int s8), some (.ref (qx_ad X r9)), some (.ref (qx_ad X r10)), some (.int x11)]) rfl (by decide) (fun _ => rfl) (fun x11 => ?_)
        refine qb_join 163 (fun s12 => [some (.ref (qx_ad X this)), none, some (.int p2), some (.int p3), some (.int x2), some (.int x4), some (.int s8), none, none, none]) (fun s12 => []) ?_ ?_
        ·
          refine qb_loopw (x11) (fun s13 => [some (.ref (qx_ad X this)), none, some (.int p2), some (.int p3), some (.int x2), some (.int x4), some (.int s8), some (.ref (qx_ad X r9)), some (.ref (qx_ad X r10)), some (.int s13)]) (qw_s (qw_n (qw_s (qw_s (qw_s (qw_s (qw_s (qw_s (qw_s (qw_s (qw_0))))))))))) (fun s13 => ?_)
          refine qb_iload hX 64 rfl rfl ?_
          refine qb_iload hX 65 rfl rfl ?_
          refine qb_iconst hX 66 1 rfl (by decide) ?_
          refine qb_iadd hX 67 rfl ?_
          refine qb_bipush hX 68 20 rfl (by decide) ?_
          refine qb_imul hX 69 rfl ?_
          refine qb_icge hX 70 163 rfl (by decide) ?_ ?_
          ·
            exact qb_exit (fun σ h => qj_wk (ρ' := [some (.ref (qx_ad X this)), none, some (.int p2), some (.int p3), some (.int x2), some (.int x4), some (.int s8), none, none, none]) (qw_s (qw_n (qw_s (qw_s (qw_s (qw_s (qw_s (qw_n (qw_n (qw_n (qw_0))))))))))) h)
          ·
            refine qb_iload hX 71 rfl rfl ?_
            refine qb_aload hX 72 rfl rfl ?_
            refine qb_alen hX 73 (Int32.ofNat (qm_kd r9).2) rfl (Or.inl hr9) rfl ?_
            refine qb_icge hX 74 163 rfl (by decide) ?_ ?_
            ·
              exact qb_exit (fun σ h => qj_wk (ρ' := [some (.ref (qx_ad X this)), none, some (.int p2), some (.int p3), some (.int x2), some (.int x4), some (.int s8), none, none, none]) (qw_s (qw_n (qw_s (qw_s (qw_s (qw_s (qw_s (qw_n (qw_n (qw_n (qw_0))))))))))) h)
            ·
              refine qb_aload hX 75 rfl rfl ?_
              refine qb_iload hX 76 rfl rfl ?_
              refine qb_iald hX 77 rfl hr9 (fun x14 => ?_)
              refine qb_join 157 (fun s15 => [some (.ref (qx_ad X this)), none, some (.int p2), some (.int p3), some (.int x2), some (.int x4), some (.int s8), some (.ref (qx_ad X r9)), some (.ref (qx_ad X r10)), some (.int s13)]) (fun s15 => []) ?_ ?_
              ·
                refine qb_ifle hX 78 157 rfl (by decide) ?_ ?_
                ·
                  exact qb_exit (fun σ h => qj_wk (ρ' := [some (.ref (qx_ad X this)), none, some (.int p2), some (.int p3), some (.int x2), some (.int x4), some (.int s8), some (.ref (qx_ad X r9)), some (.ref (qx_ad X r10)), some (.int s13)]) (qw_s (qw_n (qw_s (qw_s (qw_s (qw_s (qw_s (qw_s (qw_s (qw_s (qw_0))))))))))) h)
                ·
                  refine qb_aload_n hX 79 rfl rfl ?_
                  refine qb_iload hX 80 rfl rfl ?_
                  refine qb_iload hX 81 rfl rfl ?_
                  refine qb_aload hX 82 rfl rfl ?_
                  refine qb_iload hX 83 rfl rfl ?_
                  refine qb_iald hX 84 rfl hr9 (fun x16 => ?_)
                  refine qb_iload_n hX 85 rfl rfl ?_
                  refine qb_aload hX 86 rfl rfl ?_
                  refine qb_callV hX 87 rfl cv_Walker_74 (jm_Walker_stepWays (qk_GI hX) this s13 x4 x16 p3 r10 hthis hr10) (ci := 7) hthis ⟨rfl, rfl, rfl, by decide, by decide⟩ rfl (by exact Nat.le_of_ble_eq_true rfl) ?_
                  exact qb_exit (fun σ h => qj_wk (ρ' := [some (.ref (qx_ad X this)), none, some (.int p2), some (.int p3), some (.int x2), some (.int x4), some (.int s8), some (.ref (qx_ad X r9)), some (.ref (qx_ad X r10)), some (.int s13)]) (qw_s (qw_n (qw_s (qw_s (qw_s (qw_s (qw_s (qw_s (qw_s (qw_s (qw_0))))))))))) h)
              · intro s15
                refine qb_iinc hX 88 1 (fun x17 => [some (.ref (qx_ad X this)), none, some (.int p2), some (.int p3), some (.int x2), some (.int x4), some (.int s8), some (.ref (qx_ad X r9)), some (.ref (qx_ad X r10)), some (.int x17)]) rfl (by decide) (by decide) rfl (fun _ => rfl) (fun x17 => ?_)
                exact qb_exit (fun σ h => qj_goto hX 89 rfl (by decide) (qj_wk (ρ' := [some (.ref (qx_ad X this)), none, some (.int p2), some (.int p3), some (.int x2), some (.int x4), some (.int s8), some (.ref (qx_ad X r9)), some (.ref (qx_ad X r10)), some (.int x17)]) (qw_s (qw_n (qw_s (qw_s (qw_s (qw_s (qw_s (qw_s (qw_s (qw_s (qw_0))))))))))) h))
        · intro s12
          refine qb_iinc hX 90 1 (fun x18 => [some (.ref (qx_ad X this)), none, some (.int p2), some (.int p3), some (.int x2), some (.int x4), some (.int x18), none, none, none]) rfl (by decide) (by decide) rfl (fun _ => rfl) (fun x18 => ?_)
          exact qb_exit (fun σ h => qj_goto hX 91 rfl (by decide) (qj_wk (ρ' := [some (.ref (qx_ad X this)), none, some (.int p2), some (.int p3), some (.int x2), some (.int x4), some (.int x18), none, none, none]) (qw_s (qw_n (qw_s (qw_s (qw_s (qw_s (qw_s (qw_n (qw_n (qw_n (qw_0))))))))))) h))
    · intro s7
      refine qb_aload_n hX 92 rfl rfl ?_
      refine qb_getR hX 93 rfl fl_Walker_28 hthis rfl ?_
      refine qb_iload_n hX 94 rfl rfl ?_
      refine qb_iconst hX 95 1 rfl (by decide) ?_
      refine qb_iand hX 96 rfl ?_
      refine qb_aald hX 97 rfl (Or.inl (kf_Walker_3 hthis)) (ka_4 (kf_Walker_3 hthis)) (fun r19 hr19 => ?_)
      refine qb_iload hX 98 rfl rfl ?_
      refine qb_bipush hX 99 20 rfl (by decide) ?_
      refine qb_imul hX 100 rfl ?_
      refine qb_iald hX 101 rfl hr19 (fun x20 => ?_)
      exact qb_iret hX 102 rfl hR (fun _ h => h)
  ·
    refine qb_iconst hX 19 0 rfl (by decide) ?_
    exact qb_iret hX 20 rfl hR (fun _ h => h)
theorem jm_Walker_rowsOfEnds {l : Launch} {G : qm_G} (hG : qm_GI G) (this : Nat) (p1 : Int32) (p2 : Int32) (p3 : Int32) (hthis : (qm_kd this).1 = 17) : qm_MI l G jy_Walker_rowsOfEnds prog_9_method_4_code 10 (some .int) 3 80 [.ref (G.1 this), .int p1, .int p2, .int p3] (jf_Walker_rowsOfEnds this p1 p2 p3) :=
  qm_metI (by decide +kernel) jd_Walker_rowsOfEnds (fun v hv => by simp only [List.mem_cons, List.not_mem_nil, or_false] at hv; rcases hv with rfl | rfl | rfl | rfl <;> rfl) (by exact Nat.le_of_ble_eq_true rfl) hG rfl (fun X hl hg hX r0 σ0 hR => by subst hl; subst hg; exact jb_Walker_rowsOfEnds hX hR this p1 p2 p3 hthis)
def jl_Top_feed : List qm_I := [(0, .aload_n 0, 1, 1), (1, .getfield 19, 3, 4), (4, .getfield 64, 3, 7), (7, .bipush 20, 2, 9), (9, .iadd, 1, 10), (10, .sipush 400, 3, 13), (13, .if_icmp .le 5, 3, 16), (16, .iconst (-1), 1, 17), (17, .ireturn, 1, 18), (18, .aload_n 0, 1, 19), (19, .getfield 19, 3, 22), (22, .iload_n 1, 1, 23), (23, .invokevirtual 68, 3, 26), (26, .aload_n 0, 1, 27), (27, .getfield 19, 3, 30), (30, .iload_n 2, 1, 31), (31, .invokevirtual 68, 3, 34), (34, .aload_n 0, 1, 35), (35, .getfield 19, 3, 38), (38, .iload_n 3, 1, 39), (39, .invokevirtual 68, 3, 42), (42, .aload_n 0, 1, 43), (43, .getfield 19, 3, 46), (46, .iload 4, 2, 48), (48, .invokevirtual 68, 3, 51), (51, .aload_n 0, 1, 52), (52, .getfield 19, 3, 55), (55, .iload 5, 2, 57), (57, .invokevirtual 68, 3, 60), (60, .aload_n 0, 1, 61), (61, .getfield 19, 3, 64), (64, .getfield 64, 3, 67), (67, .ireturn, 1, 68)]
theorem jd_Top_feed : qm_D prog_1_method_2_code jl_Top_feed := qm_D_of (by decide +kernel)
noncomputable def jf_Top_feed (this : Nat) (p1 : Int32) (p2 : Int32) (p3 : Int32) (p4 : Int32) (p5 : Int32) : qm_M Int32 :=
  mB (mGt (qm_rf this 1) 1) fun x1 =>
  if (x1 + 20) ≤ 400 then
    mB (jf_Tape_append (qm_rf this 1) p1) fun _ =>
    mB (jf_Tape_append (qm_rf this 1) p2) fun _ =>
    mB (jf_Tape_append (qm_rf this 1) p3) fun _ =>
    mB (jf_Tape_append (qm_rf this 1) p4) fun _ =>
    mB (jf_Tape_append (qm_rf this 1) p5) fun _ =>
    mB (mGt (qm_rf this 1) 1) fun x2 =>
    mP x2
  else
    mP (-1)
set_option maxRecDepth 20000 in
set_option maxHeartbeats 4000000 in
theorem jb_Top_feed {X : qm_X} (hX : qm_ok X qr_Top prog_1_method_2_code 6 1 22 jl_Top_feed) {r0 : Int32} {σ0 : qm_Mem} (hR : qm_RI X r0 σ0 .int) (this : Nat) (p1 : Int32) (p2 : Int32) (p3 : Int32) (p4 : Int32) (p5 : Int32) (hthis : (qm_kd this).1 = 18) : qm_B X (jf_Top_feed this p1 p2 p3 p4 p5) 0 [some (.ref (qx_ad X this)), some (.int p1), some (.int p2), some (.int p3), some (.int p4), some (.int p5)] [] (fun r σ1 => r = r0 ∧ σ1 = σ0) := by
  unfold jf_Top_feed
  refine qb_aload_n hX 0 rfl rfl ?_
  refine qb_getR hX 1 rfl fl_Top_19 hthis rfl ?_
  refine qb_get hX 2 rfl fl_Top_64 (kf_Top_1 hthis) rfl (fun x1 => ?_)
  refine qb_bipush hX 3 20 rfl (by decide) ?_
  refine qb_iadd hX 4 rfl ?_
  refine qb_sipush hX 5 400 rfl (by decide) ?_
  refine qb_icle hX 6 18 rfl (by decide) ?_ ?_
  ·
    refine qb_aload_n hX 9 rfl rfl ?_
    refine qb_getR hX 10 rfl fl_Top_19 hthis rfl ?_
    refine qb_iload_n hX 11 rfl rfl ?_
    refine qb_callV hX 12 rfl cv_Top_68 (jm_Tape_append (qk_GI hX) (qm_rf this 1) p1 (kf_Top_1 hthis) ) (ci := 5) (kf_Top_1 hthis) ⟨rfl, rfl, rfl, by decide, by decide⟩ rfl (by exact Nat.le_of_ble_eq_true rfl) ?_
    refine qb_aload_n hX 13 rfl rfl ?_
    refine qb_getR hX 14 rfl fl_Top_19 hthis rfl ?_
    refine qb_iload_n hX 15 rfl rfl ?_
    refine qb_callV hX 16 rfl cv_Top_68 (jm_Tape_append (qk_GI hX) (qm_rf this 1) p2 (kf_Top_1 hthis) ) (ci := 5) (kf_Top_1 hthis) ⟨rfl, rfl, rfl, by decide, by decide⟩ rfl (by exact Nat.le_of_ble_eq_true rfl) ?_
    refine qb_aload_n hX 17 rfl rfl ?_
    refine qb_getR hX 18 rfl fl_Top_19 hthis rfl ?_
    refine qb_iload_n hX 19 rfl rfl ?_
    refine qb_callV hX 20 rfl cv_Top_68 (jm_Tape_append (qk_GI hX) (qm_rf this 1) p3 (kf_Top_1 hthis) ) (ci := 5) (kf_Top_1 hthis) ⟨rfl, rfl, rfl, by decide, by decide⟩ rfl (by exact Nat.le_of_ble_eq_true rfl) ?_
    refine qb_aload_n hX 21 rfl rfl ?_
    refine qb_getR hX 22 rfl fl_Top_19 hthis rfl ?_
    refine qb_iload hX 23 rfl rfl ?_
    refine qb_callV hX 24 rfl cv_Top_68 (jm_Tape_append (qk_GI hX) (qm_rf this 1) p4 (kf_Top_1 hthis) ) (ci := 5) (kf_Top_1 hthis) ⟨rfl, rfl, rfl, by decide, by decide⟩ rfl (by exact Nat.le_of_ble_eq_true rfl) ?_
    refine qb_aload_n hX 25 rfl rfl ?_
    refine qb_getR hX 26 rfl fl_Top_19 hthis rfl ?_
    refine qb_iload hX 27 rfl rfl ?_
    refine qb_callV hX 28 rfl cv_Top_68 (jm_Tape_append (qk_GI hX) (qm_rf this 1) p5 (kf_Top_1 hthis) ) (ci := 5) (kf_Top_1 hthis) ⟨rfl, rfl, rfl, by decide, by decide⟩ rfl (by exact Nat.le_of_ble_eq_true rfl) ?_
    refine qb_aload_n hX 29 rfl rfl ?_
    refine qb_getR hX 30 rfl fl_Top_19 hthis rfl ?_
    refine qb_get hX 31 rfl fl_Top_64 (kf_Top_1 hthis) rfl (fun x2 => ?_)
    exact qb_iret hX 32 rfl hR (fun _ h => h)
  ·
    refine qb_iconst hX 7 (-1) rfl (by decide) ?_
    exact qb_iret hX 8 rfl hR (fun _ h => h)
theorem jm_Top_feed {l : Launch} {G : qm_G} (hG : qm_GI G) (this : Nat) (p1 : Int32) (p2 : Int32) (p3 : Int32) (p4 : Int32) (p5 : Int32) (hthis : (qm_kd this).1 = 18) : qm_MI l G jy_Top_feed prog_1_method_2_code 6 (some .int) 1 22 [.ref (G.1 this), .int p1, .int p2, .int p3, .int p4, .int p5] (jf_Top_feed this p1 p2 p3 p4 p5) :=
  qm_metI (by decide +kernel) jd_Top_feed (fun v hv => by simp only [List.mem_cons, List.not_mem_nil, or_false] at hv; rcases hv with rfl | rfl | rfl | rfl | rfl | rfl <;> rfl) (by exact Nat.le_of_ble_eq_true rfl) hG rfl (fun X hl hg hX r0 σ0 hR => by subst hl; subst hg; exact jb_Top_feed hX hR this p1 p2 p3 p4 p5 hthis)
def jl_Top_end : List qm_I := [(0, .iload_n 1, 1, 1), (1, .ifCond .lt 14, 3, 4), (4, .iload_n 1, 1, 5), (5, .aload_n 0, 1, 6), (6, .getfield 19, 3, 9), (9, .getfield 64, 3, 12), (12, .if_icmp .le 5, 3, 15), (15, .iconst (-1), 1, 16), (16, .ireturn, 1, 17), (17, .aload_n 0, 1, 18), (18, .getfield 19, 3, 21), (21, .iload_n 1, 1, 22), (22, .putfield 64, 3, 25), (25, .iload_n 1, 1, 26), (26, .ireturn, 1, 27)]
theorem jd_Top_end : qm_D prog_1_method_3_code jl_Top_end := qm_D_of (by decide +kernel)
noncomputable def jf_Top_end (this : Nat) (p1 : Int32) : qm_M Int32 :=
  if p1 < 0 then
    mP (-1)
  else
    mB (mGt (qm_rf this 1) 1) fun x1 =>
    if p1 ≤ x1 then
      mB (mPt (qm_rf this 1) 1 p1) fun _ =>
      mP p1
    else
      mP (-1)
set_option maxRecDepth 20000 in
set_option maxHeartbeats 4000000 in
theorem jb_Top_end {X : qm_X} (hX : qm_ok X qr_Top prog_1_method_3_code 2 0 0 jl_Top_end) {r0 : Int32} {σ0 : qm_Mem} (hR : qm_RI X r0 σ0 .int) (this : Nat) (p1 : Int32) (hthis : (qm_kd this).1 = 18) : qm_B X (jf_Top_end this p1) 0 [some (.ref (qx_ad X this)), some (.int p1)] [] (fun r σ1 => r = r0 ∧ σ1 = σ0) := by
  unfold jf_Top_end
  refine qb_iload_n hX 0 rfl rfl ?_
  refine qb_iflt hX 1 15 rfl (by decide) ?_ ?_
  ·
    refine qb_iconst hX 7 (-1) rfl (by decide) ?_
    exact qb_iret hX 8 rfl hR (fun _ h => h)
  ·
    refine qb_iload_n hX 2 rfl rfl ?_
    refine qb_aload_n hX 3 rfl rfl ?_
    refine qb_getR hX 4 rfl fl_Top_19 hthis rfl ?_
    refine qb_get hX 5 rfl fl_Top_64 (kf_Top_1 hthis) rfl (fun x1 => ?_)
    refine qb_icle hX 6 17 rfl (by decide) ?_ ?_
    ·
      refine qb_aload_n hX 9 rfl rfl ?_
      refine qb_getR hX 10 rfl fl_Top_19 hthis rfl ?_
      refine qb_iload_n hX 11 rfl rfl ?_
      refine qb_put hX 12 rfl fp_Top_64 (kf_Top_1 hthis) ?_
      refine qb_iload_n hX 13 rfl rfl ?_
      exact qb_iret hX 14 rfl hR (fun _ h => h)
    ·
      refine qb_iconst hX 7 (-1) rfl (by decide) ?_
      exact qb_iret hX 8 rfl hR (fun _ h => h)
theorem jm_Top_end {l : Launch} {G : qm_G} (hG : qm_GI G) (this : Nat) (p1 : Int32) (hthis : (qm_kd this).1 = 18) : qm_MI l G jy_Top_end prog_1_method_3_code 2 (some .int) 0 0 [.ref (G.1 this), .int p1] (jf_Top_end this p1) :=
  qm_metI (by decide +kernel) jd_Top_end (fun v hv => by simp only [List.mem_cons, List.not_mem_nil, or_false] at hv; rcases hv with rfl | rfl <;> rfl) (by exact Nat.le_of_ble_eq_true rfl) hG rfl (fun X hl hg hX r0 σ0 hR => by subst hl; subst hg; exact jb_Top_end hX hR this p1 hthis)
def jl_Top_changed : List qm_I := [(0, .aload_n 0, 1, 1), (1, .iconst 0, 1, 2), (2, .putfield 330, 3, 5), (5, .aload_n 0, 1, 6), (6, .iconst 0, 1, 7), (7, .putfield 334, 3, 10), (10, .return_, 1, 11)]
theorem jd_Top_changed : qm_D prog_1_method_38_code jl_Top_changed := qm_D_of (by decide +kernel)
noncomputable def jf_Top_changed (this : Nat) : qm_M Unit :=
  mB (mPz this 9 0) fun _ =>
  mB (mPz this 10 0) fun _ =>
  mP ()
set_option maxRecDepth 20000 in
set_option maxHeartbeats 4000000 in
theorem jb_Top_changed {X : qm_X} (hX : qm_ok X qr_Top prog_1_method_38_code 1 0 0 jl_Top_changed) {σ0 : qm_Mem} (hR : qm_RV X σ0) (this : Nat) (hthis : (qm_kd this).1 = 18) : qm_B X (jf_Top_changed this) 0 [some (.ref (qx_ad X this))] [] (fun _ σ1 => σ1 = σ0) := by
  unfold jf_Top_changed
  refine qb_aload_n hX 0 rfl rfl ?_
  refine qb_iconst hX 1 0 rfl (by decide) ?_
  refine qb_putZ hX 2 rfl fp_Top_330 hthis ?_
  refine qb_aload_n hX 3 rfl rfl ?_
  refine qb_iconst hX 4 0 rfl (by decide) ?_
  refine qb_putZ hX 5 rfl fp_Top_334 hthis ?_
  exact qb_vret hX 6 rfl hR (fun _ h => h)
theorem jm_Top_changed {l : Launch} {G : qm_G} (hG : qm_GI G) (this : Nat) (hthis : (qm_kd this).1 = 18) : qm_MV l G jy_Top_changed prog_1_method_38_code 1 0 0 [.ref (G.1 this)] (jf_Top_changed this) :=
  qm_metV (by decide +kernel) jd_Top_changed (fun v hv => by simp only [List.mem_cons, List.not_mem_nil, or_false] at hv; rcases hv with rfl <;> rfl) (by exact Nat.le_of_ble_eq_true rfl) hG (fun X hl hg hX σ0 hR => by subst hl; subst hg; exact jb_Top_changed hX hR this hthis)
def jl_Top_beginAct : List qm_I := [(0, .aload_n 0, 1, 1), (1, .getfield 35, 3, 4), (4, .aload_n 0, 1, 5), (5, .getfield 12, 3, 8), (8, .invokevirtual 327, 3, 11), (11, .aload_n 0, 1, 12), (12, .invokevirtual 86, 3, 15), (15, .return_, 1, 16)]
theorem jd_Top_beginAct : qm_D prog_1_method_37_code jl_Top_beginAct := qm_D_of (by decide +kernel)
noncomputable def jf_Top_beginAct (this : Nat) : qm_M Unit :=
  mB (jf_Past_push (qm_rf this 3) (qm_rf this 0)) fun _ =>
  mB (jf_Top_changed this) fun _ =>
  mP ()
set_option maxRecDepth 20000 in
set_option maxHeartbeats 4000000 in
theorem jb_Top_beginAct {X : qm_X} (hX : qm_ok X qr_Top prog_1_method_37_code 1 2 43 jl_Top_beginAct) {σ0 : qm_Mem} (hR : qm_RV X σ0) (this : Nat) (hthis : (qm_kd this).1 = 18) : qm_B X (jf_Top_beginAct this) 0 [some (.ref (qx_ad X this))] [] (fun _ σ1 => σ1 = σ0) := by
  unfold jf_Top_beginAct
  refine qb_aload_n hX 0 rfl rfl ?_
  refine qb_getR hX 1 rfl fl_Top_35 hthis rfl ?_
  refine qb_aload_n hX 2 rfl rfl ?_
  refine qb_getR hX 3 rfl fl_Top_12 hthis rfl ?_
  refine qb_callV hX 4 rfl cv_Top_327 (jm_Past_push (qk_GI hX) (qm_rf this 3) (qm_rf this 0) (kf_Top_3 hthis) (kf_Top_0 hthis)) (ci := 2) (kf_Top_3 hthis) ⟨rfl, rfl, rfl, by decide, by decide⟩ rfl (by exact Nat.le_of_ble_eq_true rfl) ?_
  refine qb_aload_n hX 5 rfl rfl ?_
  refine qb_callV hX 6 rfl cv_Top_86 (jm_Top_changed (qk_GI hX) this  hthis ) (ci := 8) hthis ⟨rfl, rfl, rfl, by decide, by decide⟩ rfl (by exact Nat.le_of_ble_eq_true rfl) ?_
  exact qb_vret hX 7 rfl hR (fun _ h => h)
theorem jm_Top_beginAct {l : Launch} {G : qm_G} (hG : qm_GI G) (this : Nat) (hthis : (qm_kd this).1 = 18) : qm_MV l G jy_Top_beginAct prog_1_method_37_code 1 2 43 [.ref (G.1 this)] (jf_Top_beginAct this) :=
  qm_metV (by decide +kernel) jd_Top_beginAct (fun v hv => by simp only [List.mem_cons, List.not_mem_nil, or_false] at hv; rcases hv with rfl <;> rfl) (by exact Nat.le_of_ble_eq_true rfl) hG (fun X hl hg hX σ0 hR => by subst hl; subst hg; exact jb_Top_beginAct hX hR this hthis)
def jl_Top_set : List qm_I := [(0, .iload_n 1, 1, 1), (1, .iload_n 2, 1, 2), (2, .invokestatic 89, 3, 5), (5, .ifCond .ne 5, 3, 8), (8, .iconst (-1), 1, 9), (9, .ireturn, 1, 10), (10, .aload_n 0, 1, 11), (11, .getfield 12, 3, 14), (14, .iload_n 1, 1, 15), (15, .invokevirtual 93, 3, 18), (18, .istore_n 3, 1, 19), (19, .iload_n 3, 1, 20), (20, .iload_n 2, 1, 21), (21, .if_icmp .ne 6, 3, 24), (24, .bipush (-2), 2, 26), (26, .ireturn, 1, 27), (27, .aload_n 0, 1, 28), (28, .invokevirtual 97, 3, 31), (31, .aload_n 0, 1, 32), (32, .getfield 12, 3, 35), (35, .iload_n 1, 1, 36), (36, .iload_n 2, 1, 37), (37, .invokevirtual 100, 3, 40), (40, .iload_n 3, 1, 41), (41, .ireturn, 1, 42)]
theorem jd_Top_set : qm_D prog_1_method_5_code jl_Top_set := qm_D_of (by decide +kernel)
noncomputable def jf_Top_set (this : Nat) (p1 : Int32) (p2 : Int32) : qm_M Int32 :=
  mB (jf_Run_takes p1 p2) fun x1 =>
  if ¬ x1 = 0 then
    mB (jf_Run_setting (qm_rf this 0) p1) fun x2 =>
    if ¬ x2 = p2 then
      mB (jf_Top_beginAct this) fun _ =>
      mB (jf_Run_put (qm_rf this 0) p1 p2) fun _ =>
      mP x2
    else
      mP (-2)
  else
    mP (-1)
set_option maxRecDepth 20000 in
set_option maxHeartbeats 4000000 in
theorem jb_Top_set {X : qm_X} (hX : qm_ok X qr_Top prog_1_method_5_code 4 3 63 jl_Top_set) {r0 : Int32} {σ0 : qm_Mem} (hR : qm_RI X r0 σ0 .int) (this : Nat) (p1 : Int32) (p2 : Int32) (hthis : (qm_kd this).1 = 18) : qm_B X (jf_Top_set this p1 p2) 0 [some (.ref (qx_ad X this)), some (.int p1), some (.int p2), none] [] (fun r σ1 => r = r0 ∧ σ1 = σ0) := by
  unfold jf_Top_set
  refine qb_iload_n hX 0 rfl rfl ?_
  refine qb_iload_n hX 1 rfl rfl ?_
  refine qb_calSI hX 2 rfl cv_Top_89 (jm_Run_takes (qk_GI hX) p1 p2 ) ⟨rfl, by decide, by decide⟩ rfl (by exact Nat.le_of_ble_eq_true rfl) (fun x1 => ?_)
  refine qb_ifne hX 3 10 rfl (by decide) ?_ ?_
  ·
    refine qb_aload_n hX 6 rfl rfl ?_
    refine qb_getR hX 7 rfl fl_Top_12 hthis rfl ?_
    refine qb_iload_n hX 8 rfl rfl ?_
    refine qb_callI hX 9 rfl cv_Top_93 (jm_Run_setting (qk_GI hX) (qm_rf this 0) p1 (kf_Top_0 hthis) ) (ci := 4) (kf_Top_0 hthis) ⟨rfl, rfl, rfl, by decide, by decide⟩ rfl (by exact Nat.le_of_ble_eq_true rfl) (fun x2 => ?_)
    refine qb_istore_n hX 10 ([some (.ref (qx_ad X this)), some (.int p1), some (.int p2), some (.int x2)]) rfl (by decide) rfl ?_
    refine qb_iload_n hX 11 rfl rfl ?_
    refine qb_iload_n hX 12 rfl rfl ?_
    refine qb_icne hX 13 27 rfl (by decide) ?_ ?_
    ·
      refine qb_aload_n hX 16 rfl rfl ?_
      refine qb_callV hX 17 rfl cv_Top_97 (jm_Top_beginAct (qk_GI hX) this  hthis ) (ci := 8) hthis ⟨rfl, rfl, rfl, by decide, by decide⟩ rfl (by exact Nat.le_of_ble_eq_true rfl) ?_
      refine qb_aload_n hX 18 rfl rfl ?_
      refine qb_getR hX 19 rfl fl_Top_12 hthis rfl ?_
      refine qb_iload_n hX 20 rfl rfl ?_
      refine qb_iload_n hX 21 rfl rfl ?_
      refine qb_callV hX 22 rfl cv_Top_100 (jm_Run_put (qk_GI hX) (qm_rf this 0) p1 p2 (kf_Top_0 hthis) ) (ci := 4) (kf_Top_0 hthis) ⟨rfl, rfl, rfl, by decide, by decide⟩ rfl (by exact Nat.le_of_ble_eq_true rfl) ?_
      refine qb_iload_n hX 23 rfl rfl ?_
      exact qb_iret hX 24 rfl hR (fun _ h => h)
    ·
      refine qb_bipush hX 14 (-2) rfl (by decide) ?_
      exact qb_iret hX 15 rfl hR (fun _ h => h)
  ·
    refine qb_iconst hX 4 (-1) rfl (by decide) ?_
    exact qb_iret hX 5 rfl hR (fun _ h => h)
theorem jm_Top_set {l : Launch} {G : qm_G} (hG : qm_GI G) (this : Nat) (p1 : Int32) (p2 : Int32) (hthis : (qm_kd this).1 = 18) : qm_MI l G jy_Top_set prog_1_method_5_code 4 (some .int) 3 63 [.ref (G.1 this), .int p1, .int p2] (jf_Top_set this p1 p2) :=
  qm_metI (by decide +kernel) jd_Top_set (fun v hv => by simp only [List.mem_cons, List.not_mem_nil, or_false] at hv; rcases hv with rfl | rfl | rfl <;> rfl) (by exact Nat.le_of_ble_eq_true rfl) hG rfl (fun X hl hg hX r0 σ0 hR => by subst hl; subst hg; exact jb_Top_set hX hR this p1 p2 hthis)
def jl_Top_tie : List qm_I := [(0, .aload_n 0, 1, 1), (1, .getfield 12, 3, 4), (4, .iload_n 1, 1, 5), (5, .invokevirtual 104, 3, 8), (8, .ifCond .ne 5, 3, 11), (11, .iconst (-1), 1, 12), (12, .ireturn, 1, 13), (13, .iload_n 2, 1, 14), (14, .ifCond .eq 7, 3, 17), (17, .iconst 1, 1, 18), (18, .goto 4, 3, 21), (21, .iconst 0, 1, 22), (22, .istore_n 3, 1, 23), (23, .aload_n 0, 1, 24), (24, .getfield 12, 3, 27), (27, .iload_n 1, 1, 28), (28, .iconst 4, 1, 29), (29, .invokevirtual 108, 3, 32), (32, .iload_n 3, 1, 33), (33, .if_icmp .ne 6, 3, 36), (36, .bipush (-2), 2, 38), (38, .ireturn, 1, 39), (39, .aload_n 0, 1, 40), (40, .invokevirtual 97, 3, 43), (43, .aload_n 0, 1, 44), (44, .getfield 12, 3, 47), (47, .iload_n 1, 1, 48), (48, .iconst 4, 1, 49), (49, .iload_n 3, 1, 50), (50, .invokevirtual 112, 3, 53), (53, .iconst 1, 1, 54), (54, .ireturn, 1, 55)]
theorem jd_Top_tie : qm_D prog_1_method_6_code jl_Top_tie := qm_D_of (by decide +kernel)
noncomputable def jf_Top_tie (this : Nat) (p1 : Int32) (p2 : Int32) : qm_M Int32 :=
  mB (jf_Run_hasPieces (qm_rf this 0) p1) fun x1 =>
  if ¬ x1 = 0 then
    mB (α := Int32) (
      if p2 = 0 then
        mP 0
      else
        mP 1) fun s2 =>
    mB (jf_Run_cell (qm_rf this 0) p1 4) fun x3 =>
    if ¬ x3 = s2 then
      mB (jf_Top_beginAct this) fun _ =>
      mB (jf_Run_putCell (qm_rf this 0) p1 4 s2) fun _ =>
      mP 1
    else
      mP (-2)
  else
    mP (-1)
set_option maxRecDepth 20000 in
set_option maxHeartbeats 4000000 in
theorem jb_Top_tie {X : qm_X} (hX : qm_ok X qr_Top prog_1_method_6_code 4 3 63 jl_Top_tie) {r0 : Int32} {σ0 : qm_Mem} (hR : qm_RI X r0 σ0 .int) (this : Nat) (p1 : Int32) (p2 : Int32) (hthis : (qm_kd this).1 = 18) : qm_B X (jf_Top_tie this p1 p2) 0 [some (.ref (qx_ad X this)), some (.int p1), some (.int p2), none] [] (fun r σ1 => r = r0 ∧ σ1 = σ0) := by
  unfold jf_Top_tie
  refine qb_aload_n hX 0 rfl rfl ?_
  refine qb_getR hX 1 rfl fl_Top_12 hthis rfl ?_
  refine qb_iload_n hX 2 rfl rfl ?_
  refine qb_callI hX 3 rfl cv_Top_104 (jm_Run_hasPieces (qk_GI hX) (qm_rf this 0) p1 (kf_Top_0 hthis) ) (ci := 4) (kf_Top_0 hthis) ⟨rfl, rfl, rfl, by decide, by decide⟩ rfl (by exact Nat.le_of_ble_eq_true rfl) (fun x1 => ?_)
  refine qb_ifne hX 4 13 rfl (by decide) ?_ ?_
  ·
    refine qb_iload_n hX 7 rfl rfl ?_
    refine qb_join 22 (fun s2 => [some (.ref (qx_ad X this)), some (.int p1), none, none]) (fun s2 => [.int s2]) ?_ ?_
    ·
      refine qb_ifeq hX 8 21 rfl (by decide) ?_ ?_
      ·
        refine qb_iconst hX 11 0 rfl (by decide) ?_
        exact qb_exit (fun σ h => qj_wk (ρ' := [some (.ref (qx_ad X this)), some (.int p1), none, none]) (qw_s (qw_s (qw_n (qw_n (qw_0))))) h)
      ·
        refine qb_iconst hX 9 1 rfl (by decide) ?_
        exact qb_exit (fun σ h => qj_goto hX 10 rfl (by decide) (qj_wk (ρ' := [some (.ref (qx_ad X this)), some (.int p1), none, none]) (qw_s (qw_s (qw_n (qw_n (qw_0))))) h))
    · intro s2
      refine qb_istore_n hX 12 ([some (.ref (qx_ad X this)), some (.int p1), none, some (.int s2)]) rfl (by decide) rfl ?_
      refine qb_aload_n hX 13 rfl rfl ?_
      refine qb_getR hX 14 rfl fl_Top_12 hthis rfl ?_
      refine qb_iload_n hX 15 rfl rfl ?_
      refine qb_iconst hX 16 4 rfl (by decide) ?_
      refine qb_callI hX 17 rfl cv_Top_108 (jm_Run_cell (qk_GI hX) (qm_rf this 0) p1 4 (kf_Top_0 hthis) ) (ci := 4) (kf_Top_0 hthis) ⟨rfl, rfl, rfl, by decide, by decide⟩ rfl (by exact Nat.le_of_ble_eq_true rfl) (fun x3 => ?_)
      refine qb_iload_n hX 18 rfl rfl ?_
      refine qb_icne hX 19 39 rfl (by decide) ?_ ?_
      ·
        refine qb_aload_n hX 22 rfl rfl ?_
        refine qb_callV hX 23 rfl cv_Top_97 (jm_Top_beginAct (qk_GI hX) this  hthis ) (ci := 8) hthis ⟨rfl, rfl, rfl, by decide, by decide⟩ rfl (by exact Nat.le_of_ble_eq_true rfl) ?_
        refine qb_aload_n hX 24 rfl rfl ?_
        refine qb_getR hX 25 rfl fl_Top_12 hthis rfl ?_
        refine qb_iload_n hX 26 rfl rfl ?_
        refine qb_iconst hX 27 4 rfl (by decide) ?_
        refine qb_iload_n hX 28 rfl rfl ?_
        refine qb_callV hX 29 rfl cv_Top_112 (jm_Run_putCell (qk_GI hX) (qm_rf this 0) p1 4 s2 (kf_Top_0 hthis) ) (ci := 4) (kf_Top_0 hthis) ⟨rfl, rfl, rfl, by decide, by decide⟩ rfl (by exact Nat.le_of_ble_eq_true rfl) ?_
        refine qb_iconst hX 30 1 rfl (by decide) ?_
        exact qb_iret hX 31 rfl hR (fun _ h => h)
      ·
        refine qb_bipush hX 20 (-2) rfl (by decide) ?_
        exact qb_iret hX 21 rfl hR (fun _ h => h)
  ·
    refine qb_iconst hX 5 (-1) rfl (by decide) ?_
    exact qb_iret hX 6 rfl hR (fun _ h => h)
theorem jm_Top_tie {l : Launch} {G : qm_G} (hG : qm_GI G) (this : Nat) (p1 : Int32) (p2 : Int32) (hthis : (qm_kd this).1 = 18) : qm_MI l G jy_Top_tie prog_1_method_6_code 4 (some .int) 3 63 [.ref (G.1 this), .int p1, .int p2] (jf_Top_tie this p1 p2) :=
  qm_metI (by decide +kernel) jd_Top_tie (fun v hv => by simp only [List.mem_cons, List.not_mem_nil, or_false] at hv; rcases hv with rfl | rfl | rfl <;> rfl) (by exact Nat.le_of_ble_eq_true rfl) hG rfl (fun X hl hg hX r0 σ0 hR => by subst hl; subst hg; exact jb_Top_tie hX hR this p1 p2 hthis)
