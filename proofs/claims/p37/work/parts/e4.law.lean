def jl_Flat_ends : List qm_I := [(0, .iload_n 2, 1, 1), (1, .aload_n 0, 1, 2), (2, .getfield 28, 3, 5), (5, .iload_n 1, 1, 6), (6, .iaload, 1, 7), (7, .if_icmp .eq 15, 3, 10), (10, .iload_n 2, 1, 11), (11, .aload_n 0, 1, 12), (12, .getfield 28, 3, 15), (15, .iload_n 1, 1, 16), (16, .iconst 1, 1, 17), (17, .iadd, 1, 18), (18, .iaload, 1, 19), (19, .if_icmp .ne 5, 3, 22), (22, .iconst 1, 1, 23), (23, .ireturn, 1, 24), (24, .aload_n 0, 1, 25), (25, .getfield 34, 3, 28), (28, .getfield 47, 3, 31), (31, .aload_n 0, 1, 32), (32, .getfield 7, 3, 35), (35, .iload_n 2, 1, 36), (36, .iconst 1, 1, 37), (37, .isub, 1, 38), (38, .iaload, 1, 39), (39, .aaload, 1, 40), (40, .astore_n 3, 1, 41), (41, .aload_n 0, 1, 42), (42, .getfield 13, 3, 45), (45, .iload_n 2, 1, 46), (46, .iconst 1, 1, 47), (47, .isub, 1, 48), (48, .iaload, 1, 49), (49, .iconst 1, 1, 50), (50, .iadd, 1, 51), (51, .istore 4, 2, 53), (53, .iload 4, 2, 55), (55, .aload_n 3, 1, 56), (56, .iconst 1, 1, 57), (57, .iaload, 1, 58), (58, .if_icmp .ne 22, 3, 61), (61, .aload_n 3, 1, 62), (62, .iconst 0, 1, 63), (63, .iaload, 1, 64), (64, .iconst 2, 1, 65), (65, .if_icmp .eq 13, 3, 68), (68, .aload_n 3, 1, 69), (69, .iconst 4, 1, 70), (70, .iaload, 1, 71), (71, .ifCond .ne 7, 3, 74), (74, .iconst 1, 1, 75), (75, .goto 4, 3, 78), (78, .iconst 0, 1, 79), (79, .ireturn, 1, 80), (80, .aload_n 3, 1, 81), (81, .iconst 0, 1, 82), (82, .iaload, 1, 83), (83, .iconst 3, 1, 84), (84, .if_icmp .ne 5, 3, 87), (87, .iconst 1, 1, 88), (88, .ireturn, 1, 89), (89, .aload_n 0, 1, 90), (90, .getfield 7, 3, 93), (93, .iload_n 2, 1, 94), (94, .iconst 1, 1, 95), (95, .isub, 1, 96), (96, .iaload, 1, 97), (97, .ifCond .le 31, 3, 100), (100, .aload_n 0, 1, 101), (101, .getfield 34, 3, 104), (104, .getfield 47, 3, 107), (107, .aload_n 0, 1, 108), (108, .getfield 7, 3, 111), (111, .iload_n 2, 1, 112), (112, .iconst 1, 1, 113), (113, .isub, 1, 114), (114, .iaload, 1, 115), (115, .iconst 1, 1, 116), (116, .isub, 1, 117), (117, .aaload, 1, 118), (118, .iconst 0, 1, 119), (119, .iaload, 1, 120), (120, .iconst 2, 1, 121), (121, .if_icmp .ne 7, 3, 124), (124, .iconst 1, 1, 125), (125, .goto 4, 3, 128), (128, .iconst 0, 1, 129), (129, .istore 5, 2, 131), (131, .aload_n 3, 1, 132), (132, .iconst 5, 1, 133), (133, .iaload, 1, 134), (134, .ifCond .ne 58, 3, 137), (137, .iload 4, 2, 139), (139, .aload_n 0, 1, 140), (140, .getfield 34, 3, 143), (143, .getfield 56, 3, 146), (146, .iconst 2, 1, 147), (147, .iaload, 1, 148), (148, .if_icmp .lt 44, 3, 151), (151, .aload_n 3, 1, 152), (152, .iconst 1, 1, 153), (153, .iaload, 1, 154), (154, .iload 4, 2, 156), (156, .isub, 1, 157), (157, .aload_n 0, 1, 158), (158, .getfield 34, 3, 161), (161, .getfield 56, 3, 164), (164, .iconst 3, 1, 165), (165, .iaload, 1, 166), (166, .if_icmp .lt 26, 3, 169), (169, .iload 5, 2, 171), (171, .ifCond .eq 17, 3, 174), (174, .iload 4, 2, 176), (176, .aload_n 0, 1, 177), (177, .getfield 34, 3, 180), (180, .getfield 56, 3, 183), (183, .iconst 4, 1, 184), (184, .iaload, 1, 185), (185, .if_icmp .lt 7, 3, 188), (188, .iconst 1, 1, 189), (189, .goto 4, 3, 192), (192, .iconst 0, 1, 193), (193, .ireturn, 1, 194)]
theorem jd_Flat_ends : qm_D prog_11_method_2_code jl_Flat_ends := qm_D_of (by decide +kernel)
noncomputable def kf_Flat_ends (Y : yY) (this : Option Nat) (p1 : Int) (p2 : Int) : yM Int :=
  yB (yGr 19 this 7) fun x1 =>
  yB (yLd 1 x1 p1) fun x2 =>
  yB (yR2 p2 x2) fun _ =>
  if p2 = x2 then
    yB (yNw 1 (1 : Int)) fun _ =>
    yP (1 : Int)
  else
    yB (yGr 19 this 7) fun x3 =>
    yB (yLd 1 x3 (p1 + (1 : Int))) fun x4 =>
    yB (yR2 p2 x4) fun _ =>
    if ¬ p2 = x4 then
      yB (yGr 19 this 0) fun x5 =>
      yB (yGr 20 x5 2) fun x6 =>
      yB (yGr 19 this 1) fun x7 =>
      yB (yLd 1 x7 (p2 - (1 : Int))) fun x8 =>
      yB (yLr 4 x6 x8) fun x9 =>
      yB (yP x9) fun x10 =>
      yB (yGr 19 this 2) fun x11 =>
      yB (yLd 1 x11 (p2 - (1 : Int))) fun x12 =>
      yB (yP (x12 + (1 : Int))) fun x13 =>
      yB (yLd 1 x10 (1 : Int)) fun x14 =>
      yB (yR2 x13 x14) fun _ =>
      if ¬ x13 = x14 then
        yB (yLd 1 x10 (0 : Int)) fun x15 =>
        yB (yR2 x15 (3 : Int)) fun _ =>
        if ¬ x15 = (3 : Int) then
          yB (yGr 19 this 1) fun x16 =>
          yB (yLd 1 x16 (p2 - (1 : Int))) fun x17 =>
          yB (α := Int) (
            yB (α := (Unit ⊕ Int)) (
              yB (yR x17) fun _ =>
              if x17 ≤ 0 then
                yP (Sum.inl ())
              else
                yB (yGr 19 this 0) fun x20 =>
                yB (yGr 20 x20 2) fun x21 =>
                yB (yGr 19 this 1) fun x22 =>
                yB (yLd 1 x22 (p2 - (1 : Int))) fun x23 =>
                yB (yLr 4 x21 (x23 - (1 : Int))) fun x24 =>
                yB (yLd 1 x24 (0 : Int)) fun x25 =>
                yB (yR2 x25 (2 : Int)) fun _ =>
                if ¬ x25 = (2 : Int) then
                  yP (Sum.inl ())
                else
                  yP (Sum.inr (1 : Int))) (Sum.elim (fun s19 =>
              yP (0 : Int)) yP)) fun s18 =>
          yB (yP s18) fun x26 =>
          yB (yLd 1 x10 (5 : Int)) fun x27 =>
          yB (yR x27) fun _ =>
          if ¬ x27 = 0 then
            yB (yNw 1 (0 : Int)) fun _ =>
            yP (0 : Int)
          else
            yB (yGr 19 this 0) fun x28 =>
            yB (yGr 20 x28 0) fun x29 =>
            yB (yLd 1 x29 (2 : Int)) fun x30 =>
            yB (yR2 x13 x30) fun _ =>
            if x13 < x30 then
              yB (yNw 1 (0 : Int)) fun _ =>
              yP (0 : Int)
            else
              yB (yLd 1 x10 (1 : Int)) fun x31 =>
              yB (yGr 19 this 0) fun x32 =>
              yB (yGr 20 x32 0) fun x33 =>
              yB (yLd 1 x33 (3 : Int)) fun x34 =>
              yB (yR2 (x31 - x13) x34) fun _ =>
              if (x31 - x13) < x34 then
                yB (yNw 1 (0 : Int)) fun _ =>
                yP (0 : Int)
              else
                yB (yR x26) fun _ =>
                if x26 = 0 then
                  yB (yNw 1 (1 : Int)) fun _ =>
                  yP (1 : Int)
                else
                  yB (yGr 19 this 0) fun x35 =>
                  yB (yGr 20 x35 0) fun x36 =>
                  yB (yLd 1 x36 (4 : Int)) fun x37 =>
                  yB (yR2 x13 x37) fun _ =>
                  if x13 < x37 then
                    yB (yNw 1 (0 : Int)) fun _ =>
                    yP (0 : Int)
                  else
                    yB (yNw 1 (1 : Int)) fun _ =>
                    yP (1 : Int)
        else
          yB (yNw 1 (1 : Int)) fun _ =>
          yP (1 : Int)
      else
        yB (yLd 1 x10 (0 : Int)) fun x38 =>
        yB (yR2 x38 (2 : Int)) fun _ =>
        if x38 = (2 : Int) then
          yB (yNw 1 (0 : Int)) fun _ =>
          yP (0 : Int)
        else
          yB (yLd 1 x10 (4 : Int)) fun x39 =>
          yB (yR x39) fun _ =>
          if ¬ x39 = 0 then
            yB (yNw 1 (0 : Int)) fun _ =>
            yP (0 : Int)
          else
            yB (yNw 1 (1 : Int)) fun _ =>
            yP (1 : Int)
    else
      yB (yNw 1 (1 : Int)) fun _ =>
      yP (1 : Int)
set_option maxRecDepth 20000 in
set_option maxHeartbeats 4000000 in
theorem kb_Flat_ends {X : qm_X} {Y : yY} {Fn : yFn} (hX : y_ok X Y Fn qr_Flat prog_11_method_2_code 6 0 0 jl_Flat_ends) {r0 : Int} {w0 : yW} (hR : y_RI X Y Fn r0 w0 .boolean) (this : Option Nat) (p1 : Int) (p2 : Int) : yb X Y Fn (kf_Flat_ends Y this p1 p2) 0 [some (va_rf this), some (yi p1), some (yi p2), none, none, none] [] (fun r w1 => r = r0 ∧ w1 = w0) := by
  unfold kf_Flat_ends
  refine y_iload_n hX 0 rfl rfl ?_
  refine y_aload_n hX 1 rfl rfl ?_
  refine y_getR hX 2 (t := 9) (j := 7) rfl yfl_Flat_28 (by decide) (by decide +kernel) (fun x1 => ?_)
  refine y_iload_n hX 3 rfl rfl ?_
  refine y_iald hX 4 rfl (fun x2 => ?_)
  refine y_iceq hX 5 22 rfl (by decide) ?_ ?_
  ·
    refine y_iconst hX 14 1 rfl (by decide) ?_
    exact y_zret hX 15 (by first | exact Or.inl rfl | exact Or.inr rfl) rfl hR (fun _ h => h)
  ·
    refine y_iload_n hX 6 rfl rfl ?_
    refine y_aload_n hX 7 rfl rfl ?_
    refine y_getR hX 8 (t := 9) (j := 7) rfl yfl_Flat_28 (by decide) (by decide +kernel) (fun x3 => ?_)
    refine y_iload_n hX 9 rfl rfl ?_
    refine y_iconst hX 10 1 rfl (by decide) ?_
    refine y_iadd hX 11 rfl ?_
    refine y_iald hX 12 rfl (fun x4 => ?_)
    refine y_icne hX 13 24 rfl (by decide) ?_ ?_
    ·
      refine y_aload_n hX 16 rfl rfl ?_
      refine y_getR hX 17 (t := 9) (j := 0) rfl yfl_Flat_34 (by decide) (by decide +kernel) (fun x5 => ?_)
      refine y_getNR hX 18 (t := 10) (j := 2) rfl yfl_Flat_47 (by decide) (by decide +kernel) (fun x6 => ?_)
      refine y_aload_n hX 19 rfl rfl ?_
      refine y_getR hX 20 (t := 9) (j := 1) rfl yfl_Flat_7 (by decide) (by decide +kernel) (fun x7 => ?_)
      refine y_iload_n hX 21 rfl rfl ?_
      refine y_iconst hX 22 1 rfl (by decide) ?_
      refine y_isub hX 23 rfl ?_
      refine y_iald hX 24 rfl (fun x8 => ?_)
      refine y_aald hX 25 (t := 4) (by decide) rfl (fun x9 => ?_)
      refine y_astore_n hX 26 (fun x10 => [some (va_rf this), some (yi p1), some (yi p2), some (va_rf x10), none, none]) rfl (by decide) (fun _ => rfl) (fun x10 => ?_)
      refine y_aload_n hX 27 rfl rfl ?_
      refine y_getR hX 28 (t := 9) (j := 2) rfl yfl_Flat_13 (by decide) (by decide +kernel) (fun x11 => ?_)
      refine y_iload_n hX 29 rfl rfl ?_
      refine y_iconst hX 30 1 rfl (by decide) ?_
      refine y_isub hX 31 rfl ?_
      refine y_iald hX 32 rfl (fun x12 => ?_)
      refine y_iconst hX 33 1 rfl (by decide) ?_
      refine y_iadd hX 34 rfl ?_
      refine y_istore hX 35 (fun x13 => [some (va_rf this), some (yi p1), some (yi p2), some (va_rf x10), some (yi x13), none]) rfl (by decide) (fun _ => rfl) (fun x13 => ?_)
      refine y_iload hX 36 rfl rfl ?_
      refine y_aload_n hX 37 rfl rfl ?_
      refine y_iconst hX 38 1 rfl (by decide) ?_
      refine y_iald hX 39 rfl (fun x14 => ?_)
      refine y_icne hX 40 80 rfl (by decide) ?_ ?_
      ·
        refine y_aload_n hX 54 rfl rfl ?_
        refine y_iconst hX 55 0 rfl (by decide) ?_
        refine y_iald hX 56 rfl (fun x15 => ?_)
        refine y_iconst hX 57 3 rfl (by decide) ?_
        refine y_icne hX 58 89 rfl (by decide) ?_ ?_
        ·
          refine y_aload_n hX 61 rfl rfl ?_
          refine y_getR hX 62 (t := 9) (j := 1) rfl yfl_Flat_7 (by decide) (by decide +kernel) (fun x16 => ?_)
          refine y_iload_n hX 63 rfl rfl ?_
          refine y_iconst hX 64 1 rfl (by decide) ?_
          refine y_isub hX 65 rfl ?_
          refine y_iald hX 66 rfl (fun x17 => ?_)
          refine y_join (S := Int) 129 (fun s18 => [some (va_rf this), none, none, some (va_rf x10), some (yi x13), none]) (fun s18 => [yi s18]) ?_ ?_
          ·
            refine y_join2 (S := Unit) 128 (fun s19 => [some (va_rf this), none, none, some (va_rf x10), some (yi x13), none]) (fun s19 => []) ?_ ?_
            ·
              refine y_ifle hX 67 128 rfl (by decide) ?_ ?_
              ·
                exact y_exit (fun w h => yj_wk (ρ' := [some (va_rf this), none, none, some (va_rf x10), some (yi x13), none]) (qw_s (qw_n (qw_n (qw_s (qw_s (qw_n (qw_0))))))) h)
              ·
                refine y_aload_n hX 68 rfl rfl ?_
                refine y_getR hX 69 (t := 9) (j := 0) rfl yfl_Flat_34 (by decide) (by decide +kernel) (fun x20 => ?_)
                refine y_getNR hX 70 (t := 10) (j := 2) rfl yfl_Flat_47 (by decide) (by decide +kernel) (fun x21 => ?_)
                refine y_aload_n hX 71 rfl rfl ?_
                refine y_getR hX 72 (t := 9) (j := 1) rfl yfl_Flat_7 (by decide) (by decide +kernel) (fun x22 => ?_)
                refine y_iload_n hX 73 rfl rfl ?_
                refine y_iconst hX 74 1 rfl (by decide) ?_
                refine y_isub hX 75 rfl ?_
                refine y_iald hX 76 rfl (fun x23 => ?_)
                refine y_iconst hX 77 1 rfl (by decide) ?_
                refine y_isub hX 78 rfl ?_
                refine y_aald hX 79 (t := 4) (by decide) rfl (fun x24 => ?_)
                refine y_iconst hX 80 0 rfl (by decide) ?_
                refine y_iald hX 81 rfl (fun x25 => ?_)
                refine y_iconst hX 82 2 rfl (by decide) ?_
                refine y_icne hX 83 128 rfl (by decide) ?_ ?_
                ·
                  exact y_exit (fun w h => yj_wk (ρ' := [some (va_rf this), none, none, some (va_rf x10), some (yi x13), none]) (qw_s (qw_n (qw_n (qw_s (qw_s (qw_n (qw_0))))))) h)
                ·
                  refine y_iconst hX 84 1 rfl (by decide) ?_
                  exact y_exit (fun w h => yj_goto hX 85 rfl (by decide) (yj_wk (ρ' := [some (va_rf this), none, none, some (va_rf x10), some (yi x13), none]) (qw_s (qw_n (qw_n (qw_s (qw_s (qw_n (qw_0))))))) h))
            · intro s19
              refine y_iconst hX 86 0 rfl (by decide) ?_
              exact y_exit (fun w h => yj_wk (ρ' := [some (va_rf this), none, none, some (va_rf x10), some (yi x13), none]) (qw_s (qw_n (qw_n (qw_s (qw_s (qw_n (qw_0))))))) h)
          · intro s18
            refine y_istore hX 87 (fun x26 => [some (va_rf this), none, none, some (va_rf x10), some (yi x13), some (yi x26)]) rfl (by decide) (fun _ => rfl) (fun x26 => ?_)
            refine y_aload_n hX 88 rfl rfl ?_
            refine y_iconst hX 89 5 rfl (by decide) ?_
            refine y_iald hX 90 rfl (fun x27 => ?_)
            refine y_ifne hX 91 192 rfl (by decide) ?_ ?_
            ·
              refine y_iconst hX 121 0 rfl (by decide) ?_
              exact y_zret hX 122 (by first | exact Or.inl rfl | exact Or.inr rfl) rfl hR (fun _ h => h)
            ·
              refine y_iload hX 92 rfl rfl ?_
              refine y_aload_n hX 93 rfl rfl ?_
              refine y_getR hX 94 (t := 9) (j := 0) rfl yfl_Flat_34 (by decide) (by decide +kernel) (fun x28 => ?_)
              refine y_getNR hX 95 (t := 10) (j := 0) rfl yfl_Flat_56 (by decide) (by decide +kernel) (fun x29 => ?_)
              refine y_iconst hX 96 2 rfl (by decide) ?_
              refine y_iald hX 97 rfl (fun x30 => ?_)
              refine y_iclt hX 98 192 rfl (by decide) ?_ ?_
              ·
                refine y_iconst hX 121 0 rfl (by decide) ?_
                exact y_zret hX 122 (by first | exact Or.inl rfl | exact Or.inr rfl) rfl hR (fun _ h => h)
              ·
                refine y_aload_n hX 99 rfl rfl ?_
                refine y_iconst hX 100 1 rfl (by decide) ?_
                refine y_iald hX 101 rfl (fun x31 => ?_)
                refine y_iload hX 102 rfl rfl ?_
                refine y_isub hX 103 rfl ?_
                refine y_aload_n hX 104 rfl rfl ?_
                refine y_getR hX 105 (t := 9) (j := 0) rfl yfl_Flat_34 (by decide) (by decide +kernel) (fun x32 => ?_)
                refine y_getNR hX 106 (t := 10) (j := 0) rfl yfl_Flat_56 (by decide) (by decide +kernel) (fun x33 => ?_)
                refine y_iconst hX 107 3 rfl (by decide) ?_
                refine y_iald hX 108 rfl (fun x34 => ?_)
                refine y_iclt hX 109 192 rfl (by decide) ?_ ?_
                ·
                  refine y_iconst hX 121 0 rfl (by decide) ?_
                  exact y_zret hX 122 (by first | exact Or.inl rfl | exact Or.inr rfl) rfl hR (fun _ h => h)
                ·
                  refine y_iload hX 110 rfl rfl ?_
                  refine y_ifeq hX 111 188 rfl (by decide) ?_ ?_
                  ·
                    refine y_iconst hX 119 1 rfl (by decide) ?_
                    refine y_goto hX 120 (tgt := 193) rfl (by decide) ?_
                    exact y_zret hX 122 (by first | exact Or.inl rfl | exact Or.inr rfl) rfl hR (fun _ h => h)
                  ·
                    refine y_iload hX 112 rfl rfl ?_
                    refine y_aload_n hX 113 rfl rfl ?_
                    refine y_getR hX 114 (t := 9) (j := 0) rfl yfl_Flat_34 (by decide) (by decide +kernel) (fun x35 => ?_)
                    refine y_getNR hX 115 (t := 10) (j := 0) rfl yfl_Flat_56 (by decide) (by decide +kernel) (fun x36 => ?_)
                    refine y_iconst hX 116 4 rfl (by decide) ?_
                    refine y_iald hX 117 rfl (fun x37 => ?_)
                    refine y_iclt hX 118 192 rfl (by decide) ?_ ?_
                    ·
                      refine y_iconst hX 121 0 rfl (by decide) ?_
                      exact y_zret hX 122 (by first | exact Or.inl rfl | exact Or.inr rfl) rfl hR (fun _ h => h)
                    ·
                      refine y_iconst hX 119 1 rfl (by decide) ?_
                      refine y_goto hX 120 (tgt := 193) rfl (by decide) ?_
                      exact y_zret hX 122 (by first | exact Or.inl rfl | exact Or.inr rfl) rfl hR (fun _ h => h)
        ·
          refine y_iconst hX 59 1 rfl (by decide) ?_
          exact y_zret hX 60 (by first | exact Or.inl rfl | exact Or.inr rfl) rfl hR (fun _ h => h)
      ·
        refine y_aload_n hX 41 rfl rfl ?_
        refine y_iconst hX 42 0 rfl (by decide) ?_
        refine y_iald hX 43 rfl (fun x38 => ?_)
        refine y_iconst hX 44 2 rfl (by decide) ?_
        refine y_iceq hX 45 78 rfl (by decide) ?_ ?_
        ·
          refine y_iconst hX 52 0 rfl (by decide) ?_
          exact y_zret hX 53 (by first | exact Or.inl rfl | exact Or.inr rfl) rfl hR (fun _ h => h)
        ·
          refine y_aload_n hX 46 rfl rfl ?_
          refine y_iconst hX 47 4 rfl (by decide) ?_
          refine y_iald hX 48 rfl (fun x39 => ?_)
          refine y_ifne hX 49 78 rfl (by decide) ?_ ?_
          ·
            refine y_iconst hX 52 0 rfl (by decide) ?_
            exact y_zret hX 53 (by first | exact Or.inl rfl | exact Or.inr rfl) rfl hR (fun _ h => h)
          ·
            refine y_iconst hX 50 1 rfl (by decide) ?_
            refine y_goto hX 51 (tgt := 79) rfl (by decide) ?_
            exact y_zret hX 53 (by first | exact Or.inl rfl | exact Or.inr rfl) rfl hR (fun _ h => h)
    ·
      refine y_iconst hX 14 1 rfl (by decide) ?_
      exact y_zret hX 15 (by first | exact Or.inl rfl | exact Or.inr rfl) rfl hR (fun _ h => h)
theorem km_Flat_ends {l : Launch} {G : qm_G} {Y : yY} (hG : yGG G Y) (this : Option Nat) (p1 : Int) (p2 : Int) : yMM (yQi G Y) l G Y jy_Flat_ends prog_11_method_2_code 6 (some .boolean) 0 0 [va_rf this, yi p1, yi p2] (kf_Flat_ends Y this p1 p2) :=
  y_met (by decide +kernel) jd_Flat_ends (fun v hv => by simp only [List.mem_cons, List.not_mem_nil, or_false] at hv; rcases hv with rfl | rfl | rfl <;> first | exact yc_D _ | rfl) (by exact Nat.le_of_ble_eq_true rfl) hG (fun X Fn r0 w0 hl hg hn hX hR => by subst hl; subst hg; exact kb_Flat_ends hX hR this p1 p2)
def jl_Flat_own : List qm_I := [(0, .iconst 0, 1, 1), (1, .istore_n 3, 1, 2), (2, .iload_n 1, 1, 3), (3, .istore 4, 2, 5), (5, .iload 4, 2, 7), (7, .iload_n 2, 1, 8), (8, .if_icmp .ge 19, 3, 11), (11, .iload_n 3, 1, 12), (12, .aload_n 0, 1, 13), (13, .getfield 22, 3, 16), (16, .iload 4, 2, 18), (18, .iaload, 1, 19), (19, .iadd, 1, 20), (20, .istore_n 3, 1, 21), (21, .iinc 4 1, 3, 24), (24, .goto (-19), 3, 27), (27, .iload_n 3, 1, 28), (28, .ireturn, 1, 29)]
theorem jd_Flat_own : qm_D prog_11_method_4_code jl_Flat_own := qm_D_of (by decide +kernel)
noncomputable def kf_Flat_own (Y : yY) (this : Option Nat) (p1 : Int) (p2 : Int) : yM Int :=
  yB (yP (0 : Int)) fun x1 =>
  yB (yP p1) fun x2 =>
  yB (α := Int) (
    yLp (S := Int × Int) (α := Int) (fun s4 =>
      yB (yR2 s4.2 p2) fun _ =>
      if p2 ≤ s4.2 then
        yP (Sum.inr s4.1)
      else
        yB (yGr 19 this 5) fun x5 =>
        yB (yLd 1 x5 s4.2) fun x6 =>
        yB (yP (s4.1 + x6)) fun x7 =>
        yB (yP (s4.2 + 1)) fun x8 =>
        yP (Sum.inl (x7, x8))) (x1, x2)) fun s3 =>
  yP s3
set_option maxRecDepth 20000 in
set_option maxHeartbeats 4000000 in
theorem kb_Flat_own {X : qm_X} {Y : yY} {Fn : yFn} (hX : y_ok X Y Fn qr_Flat prog_11_method_4_code 5 0 0 jl_Flat_own) {r0 : Int} {w0 : yW} (hR : y_RI X Y Fn r0 w0 .int) (this : Option Nat) (p1 : Int) (p2 : Int) : yb X Y Fn (kf_Flat_own Y this p1 p2) 0 [some (va_rf this), some (yi p1), some (yi p2), none, none] [] (fun r w1 => r = r0 ∧ w1 = w0) := by
  unfold kf_Flat_own
  refine y_iconst hX 0 0 rfl (by decide) ?_
  refine y_istore_n hX 1 (fun x1 => [some (va_rf this), some (yi p1), some (yi p2), some (yi x1), none]) rfl (by decide) (fun _ => rfl) (fun x1 => ?_)
  refine y_iload_n hX 2 rfl rfl ?_
  refine y_istore hX 3 (fun x2 => [some (va_rf this), some (yi p1), some (yi p2), some (yi x1), some (yi x2)]) rfl (by decide) (fun _ => rfl) (fun x2 => ?_)
  refine y_join (S := Int) 27 (fun s3 => [none, none, none, some (yi s3), none]) (fun s3 => []) ?_ ?_
  ·
    refine y_loopw (S := Int × Int) ((x1, x2)) (fun s4 => [some (va_rf this), none, some (yi p2), some (yi s4.1), some (yi s4.2)]) (qw_s (qw_n (qw_s (qw_s (qw_s (qw_0)))))) (fun s4 => ?_)
    refine y_iload hX 4 rfl rfl ?_
    refine y_iload_n hX 5 rfl rfl ?_
    refine y_icge hX 6 27 rfl (by decide) ?_ ?_
    ·
      exact y_exit (fun w h => yj_wk (ρ' := [none, none, none, some (yi s4.1), none]) (qw_n (qw_n (qw_n (qw_s (qw_n (qw_0)))))) h)
    ·
      refine y_iload_n hX 7 rfl rfl ?_
      refine y_aload_n hX 8 rfl rfl ?_
      refine y_getR hX 9 (t := 9) (j := 5) rfl yfl_Flat_22 (by decide) (by decide +kernel) (fun x5 => ?_)
      refine y_iload hX 10 rfl rfl ?_
      refine y_iald hX 11 rfl (fun x6 => ?_)
      refine y_iadd hX 12 rfl ?_
      refine y_istore_n hX 13 (fun x7 => [some (va_rf this), none, some (yi p2), some (yi x7), some (yi s4.2)]) rfl (by decide) (fun _ => rfl) (fun x7 => ?_)
      refine y_iinc hX 14 (fun x8 => [some (va_rf this), none, some (yi p2), some (yi x7), some (yi x8)]) rfl (by decide) rfl (fun _ => rfl) (fun x8 => ?_)
      exact y_exit (fun w h => yj_goto hX 15 rfl (by decide) (yj_wk (ρ' := [some (va_rf this), none, some (yi p2), some (yi x7), some (yi x8)]) (qw_s (qw_n (qw_s (qw_s (qw_s (qw_0)))))) h))
  · intro s3
    refine y_iload_n hX 16 rfl rfl ?_
    exact y_iret hX 17 rfl hR (fun _ h => h)
theorem km_Flat_own {l : Launch} {G : qm_G} {Y : yY} (hG : yGG G Y) (this : Option Nat) (p1 : Int) (p2 : Int) : yMM (yQi G Y) l G Y jy_Flat_own prog_11_method_4_code 5 (some .int) 0 0 [va_rf this, yi p1, yi p2] (kf_Flat_own Y this p1 p2) :=
  y_met (by decide +kernel) jd_Flat_own (fun v hv => by simp only [List.mem_cons, List.not_mem_nil, or_false] at hv; rcases hv with rfl | rfl | rfl <;> first | exact yc_D _ | rfl) (by exact Nat.le_of_ble_eq_true rfl) hG (fun X Fn r0 w0 hl hg hn hX hR => by subst hl; subst hg; exact kb_Flat_own hX hR this p1 p2)
def jl_ASB_init : List qm_I := [(0, .aload_n 0, 1, 1), (1, .invokespecial 3, 3, 4), (4, .getstatic 18, 3, 7), (7, .ifCond .eq 18, 3, 10), (10, .aload_n 0, 1, 11), (11, .iload_n 1, 1, 12), (12, .newarray .byte, 2, 14), (14, .putfield 15, 3, 17), (17, .aload_n 0, 1, 18), (18, .iconst 0, 1, 19), (19, .putfield 22, 3, 22), (22, .goto 16, 3, 25), (25, .aload_n 0, 1, 26), (26, .iload_n 1, 1, 27), (27, .invokestatic 26, 3, 30), (30, .putfield 15, 3, 33), (33, .aload_n 0, 1, 34), (34, .iconst 1, 1, 35), (35, .putfield 22, 3, 38), (38, .return_, 1, 39)]
theorem jd_ASB_init : qm_D prog_14_method_2_code jl_ASB_init := qm_D_of (by decide +kernel)
noncomputable def kf_ASB_init (Y : yY) (this : Option Nat) (p1 : Int) : yM Unit :=
  yB (yNn this) fun _ =>
  yB (yR (1 : Int)) fun _ =>
  if (1 : Int) = 0 then
    yF
  else
    yB (yNa 3 p1) fun x1 =>
    yB (yPr 21 this 0 x1) fun _ =>
    yB (yPz 21 this 1 (0 : Int)) fun _ =>
    yP ()
set_option maxRecDepth 20000 in
set_option maxHeartbeats 4000000 in
theorem kb_ASB_init {X : qm_X} {Y : yY} {Fn : yFn} (hX : y_ok X Y Fn "java/lang/AbstractStringBuilder" prog_14_method_2_code 2 1 12 jl_ASB_init) {w0 : yW} (hR : y_RV X Y Fn w0) (hN : (qx_meth X).name = "<init>") (this : Option Nat) (p1 : Int) : yb X Y Fn (kf_ASB_init Y this p1) 0 [some (va_rf this), some (yi p1)] [] (fun r w1 => r = () ∧ w1 = w0) := by
  unfold kf_ASB_init
  refine y_aload_n hX 0 rfl rfl ?_
  refine y_objO hX 1 rfl yob_ASB_3 ⟨by decide, by decide⟩ ?_
  refine y_getsC hX 2 rfl ygs_ASB_18 ?_
  refine y_ifeq hX 3 25 rfl (by decide) ?_ ?_
  ·
    exact y_F
  ·
    refine y_aload_n hX 4 rfl rfl ?_
    refine y_iload_n hX 5 rfl rfl ?_
    refine y_newa hX 6 (t := 3) rfl zw_byte rfl (by decide) (fun x1 => ?_)
    refine y_putR hX 7 0 (t := 11) (j := 0) rfl yfp_ASB_15 (fun h => absurd h (by decide)) (by decide) (by decide +kernel) (by first | exact Or.inr ⟨_, rfl⟩ | exact Or.inl ⟨_, rfl⟩) ?_
    refine y_aload_n hX 8 rfl rfl ?_
    refine y_iconst hX 9 0 rfl (by decide) ?_
    refine y_putB hX 10 0 (t := 11) (j := 1) rfl yfp_ASB_22 (fun h => absurd h (by decide)) (by decide) (by decide +kernel) ?_
    refine y_goto hX 11 (tgt := 38) rfl (by decide) ?_
    exact y_vret hX 19 rfl hR (fun _ h => And.right h)
theorem km_ASB_init {l : Launch} {G : qm_G} {Y : yY} (hG : yGG G Y) (this : Option Nat) (p1 : Int) : yMM (yQv G Y) l G Y jy_ASB_init prog_14_method_2_code 2 none 1 12 [va_rf this, yi p1] (kf_ASB_init Y this p1) :=
  y_met (by decide +kernel) jd_ASB_init (fun v hv => by simp only [List.mem_cons, List.not_mem_nil, or_false] at hv; rcases hv with rfl | rfl <;> first | exact yc_D _ | rfl) (by exact Nat.le_of_ble_eq_true rfl) hG (fun X Fn r0 w0 hl hg hn hX hR => by subst hl; subst hg; exact kb_ASB_init hX hR hn this p1)
def jl_ASB_length : List qm_I := [(0, .aload_n 0, 1, 1), (1, .getfield 79, 3, 4), (4, .ireturn, 1, 5)]
theorem jd_ASB_length : qm_D prog_14_method_6_code jl_ASB_length := qm_D_of (by decide +kernel)
noncomputable def kf_ASB_length (Y : yY) (this : Option Nat) : yM Int :=
  yB (yGt 21 this 3) fun x1 =>
  yP x1
set_option maxRecDepth 20000 in
set_option maxHeartbeats 4000000 in
theorem kb_ASB_length {X : qm_X} {Y : yY} {Fn : yFn} (hX : y_ok X Y Fn "java/lang/AbstractStringBuilder" prog_14_method_6_code 1 0 0 jl_ASB_length) {r0 : Int} {w0 : yW} (hR : y_RI X Y Fn r0 w0 .int) (this : Option Nat) : yb X Y Fn (kf_ASB_length Y this) 0 [some (va_rf this)] [] (fun r w1 => r = r0 ∧ w1 = w0) := by
  unfold kf_ASB_length
  refine y_aload_n hX 0 rfl rfl ?_
  refine y_get hX 1 (t := 11) (j := 3) rfl yfl_ASB_79 (by decide) (by decide +kernel) (fun x1 => ?_)
  exact y_iret hX 2 rfl hR (fun _ h => h)
theorem km_ASB_length {l : Launch} {G : qm_G} {Y : yY} (hG : yGG G Y) (this : Option Nat) : yMM (yQi G Y) l G Y jy_ASB_length prog_14_method_6_code 1 (some .int) 0 0 [va_rf this] (kf_ASB_length Y this) :=
  y_met (by decide +kernel) jd_ASB_length (fun v hv => by simp only [List.mem_cons, List.not_mem_nil, or_false] at hv; rcases hv with rfl <;> first | exact yc_D _ | rfl) (by exact Nat.le_of_ble_eq_true rfl) hG (fun X Fn r0 w0 hl hg hn hX hR => by subst hl; subst hg; exact kb_ASB_length hX hR this)
def jl_ASB_getValue : List qm_I := [(0, .aload_n 0, 1, 1), (1, .getfield 15, 3, 4), (4, .areturn, 1, 5)]
theorem jd_ASB_getValue : qm_D prog_14_method_64_code jl_ASB_getValue := qm_D_of (by decide +kernel)
noncomputable def kf_ASB_getValue (Y : yY) (this : Option Nat) : yM (Option Nat) :=
  yB (yGr 21 this 0) fun x1 =>
  yB (yNn x1) fun _ =>
  yP x1
set_option maxRecDepth 20000 in
set_option maxHeartbeats 4000000 in
theorem kb_ASB_getValue {X : qm_X} {Y : yY} {Fn : yFn} (hX : y_ok X Y Fn "java/lang/AbstractStringBuilder" prog_14_method_64_code 1 0 0 jl_ASB_getValue) {r0 : Option Nat} {w0 : yW} (hR : y_RR X Y Fn r0 w0 (.array (.byte))) (this : Option Nat) : yb X Y Fn (kf_ASB_getValue Y this) 0 [some (va_rf this)] [] (fun r w1 => r = r0 ∧ w1 = w0) := by
  unfold kf_ASB_getValue
  refine y_aload_n hX 0 rfl rfl ?_
  refine y_getR hX 1 (t := 11) (j := 0) rfl yfl_ASB_15 (by decide) (by decide +kernel) (fun x1 => ?_)
  exact y_aret hX 2 rfl hR (fun _ h => h)
theorem km_ASB_getValue {l : Launch} {G : qm_G} {Y : yY} (hG : yGG G Y) (this : Option Nat) : yMM (yQr G Y) l G Y jy_ASB_getValue prog_14_method_64_code 1 (some (.array (.byte))) 0 0 [va_rf this] (kf_ASB_getValue Y this) :=
  y_met (by decide +kernel) jd_ASB_getValue (fun v hv => by simp only [List.mem_cons, List.not_mem_nil, or_false] at hv; rcases hv with rfl <;> first | exact yc_D _ | rfl) (by exact Nat.le_of_ble_eq_true rfl) hG (fun X Fn r0 w0 hl hg hn hX hR => by subst hl; subst hg; exact kb_ASB_getValue hX ⟨⟨hR.1.1, hR.1.2, Or.inr ⟨_, rfl⟩⟩, hR.2⟩ this)
def jl_ASB_isLatin1 : List qm_I := [(0, .getstatic 18, 3, 3), (3, .ifCond .eq 14, 3, 6), (6, .aload_n 0, 1, 7), (7, .getfield 22, 3, 10), (10, .ifCond .ne 7, 3, 13), (13, .iconst 1, 1, 14), (14, .goto 4, 3, 17), (17, .iconst 0, 1, 18), (18, .ireturn, 1, 19)]
theorem jd_ASB_isLatin1 : qm_D prog_14_method_68_code jl_ASB_isLatin1 := qm_D_of (by decide +kernel)
noncomputable def kf_ASB_isLatin1 (Y : yY) (this : Option Nat) : yM Int :=
  yB (yR (1 : Int)) fun _ =>
  if (1 : Int) = 0 then
    yB (yNw 1 (0 : Int)) fun _ =>
    yP (0 : Int)
  else
    yB (yGt 21 this 1) fun x1 =>
    yB (yR x1) fun _ =>
    if ¬ x1 = 0 then
      yB (yNw 1 (0 : Int)) fun _ =>
      yP (0 : Int)
    else
      yB (yNw 1 (1 : Int)) fun _ =>
      yP (1 : Int)
set_option maxRecDepth 20000 in
set_option maxHeartbeats 4000000 in
theorem kb_ASB_isLatin1 {X : qm_X} {Y : yY} {Fn : yFn} (hX : y_ok X Y Fn "java/lang/AbstractStringBuilder" prog_14_method_68_code 1 0 0 jl_ASB_isLatin1) {r0 : Int} {w0 : yW} (hR : y_RI X Y Fn r0 w0 .boolean) (this : Option Nat) : yb X Y Fn (kf_ASB_isLatin1 Y this) 0 [some (va_rf this)] [] (fun r w1 => r = r0 ∧ w1 = w0) := by
  unfold kf_ASB_isLatin1
  refine y_getsC hX 0 rfl ygs_ASB_18 ?_
  refine y_ifeq hX 1 17 rfl (by decide) ?_ ?_
  ·
    refine y_iconst hX 7 0 rfl (by decide) ?_
    exact y_zret hX 8 (by first | exact Or.inl rfl | exact Or.inr rfl) rfl hR (fun _ h => h)
  ·
    refine y_aload_n hX 2 rfl rfl ?_
    refine y_get hX 3 (t := 11) (j := 1) rfl yfl_ASB_22 (by decide) (by decide +kernel) (fun x1 => ?_)
    refine y_ifne hX 4 17 rfl (by decide) ?_ ?_
    ·
      refine y_iconst hX 7 0 rfl (by decide) ?_
      exact y_zret hX 8 (by first | exact Or.inl rfl | exact Or.inr rfl) rfl hR (fun _ h => h)
    ·
      refine y_iconst hX 5 1 rfl (by decide) ?_
      refine y_goto hX 6 (tgt := 18) rfl (by decide) ?_
      exact y_zret hX 8 (by first | exact Or.inl rfl | exact Or.inr rfl) rfl hR (fun _ h => h)
theorem km_ASB_isLatin1 {l : Launch} {G : qm_G} {Y : yY} (hG : yGG G Y) (this : Option Nat) : yMM (yQi G Y) l G Y jy_ASB_isLatin1 prog_14_method_68_code 1 (some .boolean) 0 0 [va_rf this] (kf_ASB_isLatin1 Y this) :=
  y_met (by decide +kernel) jd_ASB_isLatin1 (fun v hv => by simp only [List.mem_cons, List.not_mem_nil, or_false] at hv; rcases hv with rfl <;> first | exact yc_D _ | rfl) (by exact Nat.le_of_ble_eq_true rfl) hG (fun X Fn r0 w0 hl hg hn hX hR => by subst hl; subst hg; exact kb_ASB_isLatin1 hX hR this)
def jl_SB_init : List qm_I := [(0, .aload_n 0, 1, 1), (1, .iload_n 1, 1, 2), (2, .invokespecial 1, 3, 5), (5, .return_, 1, 6)]
theorem jd_SB_init : qm_D prog_20_method_2_code jl_SB_init := qm_D_of (by decide +kernel)
noncomputable def kf_SB_init (Y : yY) (this : Option Nat) (p1 : Int) : yM Unit :=
  yB (yKr 21 this (kf_ASB_init Y this p1)) fun _ =>
  yP ()
set_option maxRecDepth 20000 in
set_option maxHeartbeats 4000000 in
theorem kb_SB_init {X : qm_X} {Y : yY} {Fn : yFn} (hX : y_ok X Y Fn "java/lang/StringBuilder" prog_20_method_2_code 2 2 33 jl_SB_init) {w0 : yW} (hR : y_RV X Y Fn w0) (hN : (qx_meth X).name = "<init>") (this : Option Nat) (p1 : Int) : yb X Y Fn (kf_SB_init Y this p1) 0 [some (va_rf this), some (yi p1)] [] (fun r w1 => r = () ∧ w1 = w0) := by
  unfold kf_SB_init
  refine y_aload_n hX 0 rfl rfl ?_
  refine y_iload_n hX 1 rfl rfl ?_
  refine y_calV hX y_gRo (y_hrIo hX 2 (t := 11) (As := [yi p1]) (a := this) rfl ycw_SB_1 (fun p e => by cases e; exact km_ASB_init (yk_G hX) p p1) ⟨rfl, by decide, by decide⟩ rfl (Nat.le_trans y_cn (by decide))) ?_
  exact y_vret hX 3 rfl hR (fun _ h => And.right h)
theorem km_SB_init {l : Launch} {G : qm_G} {Y : yY} (hG : yGG G Y) (this : Option Nat) (p1 : Int) : yMM (yQv G Y) l G Y jy_SB_init prog_20_method_2_code 2 none 2 33 [va_rf this, yi p1] (kf_SB_init Y this p1) :=
  y_met (by decide +kernel) jd_SB_init (fun v hv => by simp only [List.mem_cons, List.not_mem_nil, or_false] at hv; rcases hv with rfl | rfl <;> first | exact yc_D _ | rfl) (by exact Nat.le_of_ble_eq_true rfl) hG (fun X Fn r0 w0 hl hg hn hX hR => by subst hl; subst hg; exact kb_SB_init hX hR hn this p1)
def jl_SB_length : List qm_I := [(0, .aload_n 0, 1, 1), (1, .invokespecial 343, 3, 4), (4, .ireturn, 1, 5)]
theorem jd_SB_length : qm_D prog_20_method_93_code jl_SB_length := qm_D_of (by decide +kernel)
noncomputable def kf_SB_length (Y : yY) (this : Option Nat) : yM Int :=
  yB (yKr 21 this (kf_ASB_length Y this)) fun x1 =>
  yP x1
set_option maxRecDepth 20000 in
set_option maxHeartbeats 4000000 in
theorem kb_SB_length {X : qm_X} {Y : yY} {Fn : yFn} (hX : y_ok X Y Fn "java/lang/StringBuilder" prog_20_method_93_code 1 1 20 jl_SB_length) {r0 : Int} {w0 : yW} (hR : y_RI X Y Fn r0 w0 .int) (this : Option Nat) : yb X Y Fn (kf_SB_length Y this) 0 [some (va_rf this)] [] (fun r w1 => r = r0 ∧ w1 = w0) := by
  unfold kf_SB_length
  refine y_aload_n hX 0 rfl rfl ?_
  refine y_calI hX y_gRo (y_hrSUo hX 1 (t := 11) (As := []) (a := this) rfl ycw_SB_343 (fun p e => by cases e; exact km_ASB_length (yk_G hX) p) (by decide) ⟨rfl, rfl, by decide, by decide⟩ rfl (Nat.le_trans y_cn (by decide))) (fun x1 => ?_)
  exact y_iret hX 2 rfl hR (fun _ h => h)
theorem km_SB_length {l : Launch} {G : qm_G} {Y : yY} (hG : yGG G Y) (this : Option Nat) : yMM (yQi G Y) l G Y jy_SB_length prog_20_method_93_code 1 (some .int) 1 20 [va_rf this] (kf_SB_length Y this) :=
  y_met (by decide +kernel) jd_SB_length (fun v hv => by simp only [List.mem_cons, List.not_mem_nil, or_false] at hv; rcases hv with rfl <;> first | exact yc_D _ | rfl) (by exact Nat.le_of_ble_eq_true rfl) hG (fun X Fn r0 w0 hl hg hn hX hR => by subst hl; subst hg; exact kb_SB_length hX hR this)
noncomputable def kf_String_coder (Y : yY) (this : Option Nat) : yM Int :=
  yB (yR (1 : Int)) fun _ =>
  if (1 : Int) = 0 then
    yB (yNw 1 (1 : Int)) fun _ =>
    yP (1 : Int)
  else
    yB (yGt 22 this 1) fun x1 =>
    yB (yNw 1 x1) fun _ =>
    yP x1
set_option maxRecDepth 20000 in
set_option maxHeartbeats 4000000 in
theorem kb_String_coder {X : qm_X} {Y : yY} {Fn : yFn} (hX : y_ok X Y Fn "java/lang/String" prog_19_method_152_code 1 0 0 jl_String_coder) {r0 : Int} {w0 : yW} (hR : y_RI X Y Fn r0 w0 .byte) (this : Option Nat) : yb X Y Fn (kf_String_coder Y this) 0 [some (va_rf this)] [] (fun r w1 => r = r0 ∧ w1 = w0) := by
  unfold kf_String_coder
  refine y_getsC hX 0 rfl ygs_String_38 ?_
  refine y_ifeq hX 1 13 rfl (by decide) ?_ ?_
  ·
    refine y_iconst hX 5 1 rfl (by decide) ?_
    exact y_zret hX 6 (by first | exact Or.inl rfl | exact Or.inr rfl) rfl hR (fun _ h => h)
  ·
    refine y_aload_n hX 2 rfl rfl ?_
    refine y_gets hX 3 rfl yfl_String_15 yfw_String_15 (fun x1 => ?_)
    refine y_goto hX 4 (tgt := 14) rfl (by decide) ?_
    exact y_zret hX 6 (by first | exact Or.inl rfl | exact Or.inr rfl) rfl hR (fun _ h => h)
theorem km_String_coder {l : Launch} {G : qm_G} {Y : yY} (hG : yGG G Y) (this : Option Nat) : yMM (yQi G Y) l G Y jy_String_coder prog_19_method_152_code 1 (some .byte) 0 0 [va_rf this] (kf_String_coder Y this) :=
  y_met (by decide +kernel) jd_String_coder (fun v hv => by simp only [List.mem_cons, List.not_mem_nil, or_false] at hv; rcases hv with rfl <;> first | exact yc_D _ | rfl) (by exact Nat.le_of_ble_eq_true rfl) hG (fun X Fn r0 w0 hl hg hn hX hR => by subst hl; subst hg; exact kb_String_coder hX hR this)
noncomputable def kf_String_isLatin1 (Y : yY) (this : Option Nat) : yM Int :=
  yB (yR (1 : Int)) fun _ =>
  if (1 : Int) = 0 then
    yB (yNw 1 (0 : Int)) fun _ =>
    yP (0 : Int)
  else
    yB (yGt 22 this 1) fun x1 =>
    yB (yR x1) fun _ =>
    if ¬ x1 = 0 then
      yB (yNw 1 (0 : Int)) fun _ =>
      yP (0 : Int)
    else
      yB (yNw 1 (1 : Int)) fun _ =>
      yP (1 : Int)
set_option maxRecDepth 20000 in
set_option maxHeartbeats 4000000 in
theorem kb_String_isLatin1 {X : qm_X} {Y : yY} {Fn : yFn} (hX : y_ok X Y Fn "java/lang/String" prog_19_method_154_code 1 0 0 jl_String_isLatin1) {r0 : Int} {w0 : yW} (hR : y_RI X Y Fn r0 w0 .boolean) (this : Option Nat) : yb X Y Fn (kf_String_isLatin1 Y this) 0 [some (va_rf this)] [] (fun r w1 => r = r0 ∧ w1 = w0) := by
  unfold kf_String_isLatin1
  refine y_getsC hX 0 rfl ygs_String_38 ?_
  refine y_ifeq hX 1 17 rfl (by decide) ?_ ?_
  ·
    refine y_iconst hX 7 0 rfl (by decide) ?_
    exact y_zret hX 8 (by first | exact Or.inl rfl | exact Or.inr rfl) rfl hR (fun _ h => h)
  ·
    refine y_aload_n hX 2 rfl rfl ?_
    refine y_gets hX 3 rfl yfl_String_15 yfw_String_15 (fun x1 => ?_)
    refine y_ifne hX 4 17 rfl (by decide) ?_ ?_
    ·
      refine y_iconst hX 7 0 rfl (by decide) ?_
      exact y_zret hX 8 (by first | exact Or.inl rfl | exact Or.inr rfl) rfl hR (fun _ h => h)
    ·
      refine y_iconst hX 5 1 rfl (by decide) ?_
      refine y_goto hX 6 (tgt := 18) rfl (by decide) ?_
      exact y_zret hX 8 (by first | exact Or.inl rfl | exact Or.inr rfl) rfl hR (fun _ h => h)
theorem km_String_isLatin1 {l : Launch} {G : qm_G} {Y : yY} (hG : yGG G Y) (this : Option Nat) : yMM (yQi G Y) l G Y jy_String_isLatin1 prog_19_method_154_code 1 (some .boolean) 0 0 [va_rf this] (kf_String_isLatin1 Y this) :=
  y_met (by decide +kernel) jd_String_isLatin1 (fun v hv => by simp only [List.mem_cons, List.not_mem_nil, or_false] at hv; rcases hv with rfl <;> first | exact yc_D _ | rfl) (by exact Nat.le_of_ble_eq_true rfl) hG (fun X Fn r0 w0 hl hg hn hX hR => by subst hl; subst hg; exact kb_String_isLatin1 hX hR this)
noncomputable def kf_String_length (Y : yY) (this : Option Nat) : yM Int :=
  yB (yGr 22 this 0) fun x1 =>
  yB (yLn x1) fun x2 =>
  yB (yKr 22 this (kf_String_coder Y this)) fun x3 =>
  yP (ybShr x2 x3)
set_option maxRecDepth 20000 in
set_option maxHeartbeats 4000000 in
theorem kb_String_length {X : qm_X} {Y : yY} {Fn : yFn} (hX : y_ok X Y Fn "java/lang/String" prog_19_method_54_code 1 1 20 jl_String_length) {r0 : Int} {w0 : yW} (hR : y_RI X Y Fn r0 w0 .int) (this : Option Nat) : yb X Y Fn (kf_String_length Y this) 0 [some (va_rf this)] [] (fun r w1 => r = r0 ∧ w1 = w0) := by
  unfold kf_String_length
  refine y_aload_n hX 0 rfl rfl ?_
  refine y_getsR hX 1 rfl yfl_String_9 yfw_String_9 (fun x1 => ?_)
  refine y_alen hX 2 rfl (fun x2 => ?_)
  refine y_aload_n hX 3 rfl rfl ?_
  refine y_calI hX y_gRo (y_hrVo hX 4 (t := 12) (As := []) (a := this) rfl ycw_String_335 (fun p e => by cases e; exact km_String_coder (yk_G hX) p) (by decide) ⟨rfl, rfl, rfl, by decide, by decide⟩ rfl (Nat.le_trans (y_cs (yc_I _) y_cn) (by decide))) (fun x3 => ?_)
  refine y_ishr hX 5 rfl ?_
  exact y_iret hX 6 rfl hR (fun _ h => h)
theorem km_String_length {l : Launch} {G : qm_G} {Y : yY} (hG : yGG G Y) (this : Option Nat) : yMM (yQi G Y) l G Y jy_String_length prog_19_method_54_code 1 (some .int) 1 20 [va_rf this] (kf_String_length Y this) :=
  y_met (by decide +kernel) jd_String_length (fun v hv => by simp only [List.mem_cons, List.not_mem_nil, or_false] at hv; rcases hv with rfl <;> first | exact yc_D _ | rfl) (by exact Nat.le_of_ble_eq_true rfl) hG (fun X Fn r0 w0 hl hg hn hX hR => by subst hl; subst hg; exact kb_String_length hX hR this)
noncomputable def kf_Latin1_charAt (Y : yY) (p1 : Option Nat) (p2 : Int) : yM Int :=
  yB (yLn p1) fun x1 =>
  yB (yC [p2, x1] (iz_String_checkIndex p2 x1)) fun _ =>
  yB (yLd 3 p1 p2) fun x2 =>
  yB (yNw 255 (ybC (ybAnd x2 (255 : Int)))) fun _ =>
  yP (ybC (ybAnd x2 (255 : Int)))
set_option maxRecDepth 20000 in
set_option maxHeartbeats 4000000 in
theorem kb_Latin1_charAt {X : qm_X} {Y : yY} {Fn : yFn} (hX : y_ok X Y Fn "java/lang/StringLatin1" prog_21_method_2_code 2 2 43 jl_Latin1_charAt) {r0 : Int} {w0 : yW} (hR : y_RI X Y Fn r0 w0 .char) (p1 : Option Nat) (p2 : Int) : yb X Y Fn (kf_Latin1_charAt Y p1 p2) 0 [some (va_rf p1), some (yi p2)] [] (fun r w1 => r = r0 ∧ w1 = w0) := by
  unfold kf_Latin1_charAt
  refine y_iload_n hX 0 rfl rfl ?_
  refine y_aload_n hX 1 rfl rfl ?_
  refine y_alen hX 2 rfl (fun x1 => ?_)
  refine y_objSV (xs := [p2, x1]) (m0 := jf_String_checkIndex (Int32.ofInt p2) (Int32.ofInt x1)) hX 3 (As := [yi p2, yi x1]) rfl ycs_Latin1_9 (jm_String_checkIndex (qk_GI hX.1) (Int32.ofInt p2) (Int32.ofInt x1)) (fun h => is_String_checkIndex (yi_toInt (h _ (by simp))) (yi_toInt (h _ (by simp)))) ⟨rfl, by decide, by decide⟩ rfl (Nat.le_trans y_cn (by decide)) ?_
  refine y_aload_n hX 4 rfl rfl ?_
  refine y_iload_n hX 5 rfl rfl ?_
  refine y_bald hX 6 rfl (fun x2 => ?_)
  refine y_sipush hX 7 255 rfl (by decide) ?_
  refine y_iand hX 8 rfl ?_
  refine y_i2c hX 9 rfl ?_
  exact y_cret hX 10 rfl hR (fun _ h => h)
theorem km_Latin1_charAt {l : Launch} {G : qm_G} {Y : yY} (hG : yGG G Y) (p1 : Option Nat) (p2 : Int) : yMM (yQi G Y) l G Y jy_Latin1_charAt prog_21_method_2_code 2 (some .char) 2 43 [va_rf p1, yi p2] (kf_Latin1_charAt Y p1 p2) :=
  y_met (by decide +kernel) jd_Latin1_charAt (fun v hv => by simp only [List.mem_cons, List.not_mem_nil, or_false] at hv; rcases hv with rfl | rfl <;> first | exact yc_D _ | rfl) (by exact Nat.le_of_ble_eq_true rfl) hG (fun X Fn r0 w0 hl hg hn hX hR => by subst hl; subst hg; exact kb_Latin1_charAt hX hR p1 p2)
noncomputable def kf_String_charAt (Y : yY) (this : Option Nat) (p1 : Int) : yM Int :=
  yB (yKr 22 this (kf_String_isLatin1 Y this)) fun x1 =>
  yB (yR x1) fun _ =>
  if x1 = 0 then
    yF
  else
    yB (yGr 22 this 0) fun x2 =>
    yB (yK (kf_Latin1_charAt Y x2 p1)) fun x3 =>
    yB (yNw 255 x3) fun _ =>
    yP x3
set_option maxRecDepth 20000 in
set_option maxHeartbeats 4000000 in
theorem kb_String_charAt {X : qm_X} {Y : yY} {Fn : yFn} (hX : y_ok X Y Fn "java/lang/String" prog_19_method_56_code 2 3 64 jl_String_charAt) {r0 : Int} {w0 : yW} (hR : y_RI X Y Fn r0 w0 .char) (this : Option Nat) (p1 : Int) : yb X Y Fn (kf_String_charAt Y this p1) 0 [some (va_rf this), some (yi p1)] [] (fun r w1 => r = r0 ∧ w1 = w0) := by
  unfold kf_String_charAt
  refine y_aload_n hX 0 rfl rfl ?_
  refine y_calI hX y_gRo (y_hrVo hX 1 (t := 12) (As := []) (a := this) rfl ycw_String_492 (fun p e => by cases e; exact km_String_isLatin1 (yk_G hX) p) (by decide) ⟨rfl, rfl, rfl, by decide, by decide⟩ rfl (Nat.le_trans y_cn (by decide))) (fun x1 => ?_)
  refine y_ifeq hX 2 16 rfl (by decide) ?_ ?_
  ·
    exact y_F
  ·
    refine y_aload_n hX 3 rfl rfl ?_
    refine y_getsR hX 4 rfl yfl_String_9 yfw_String_9 (fun x2 => ?_)
    refine y_iload_n hX 5 rfl rfl ?_
    refine y_calI hX y_gK (y_hrS hX 6 (As := [va_rf x2, yi p1]) rfl ycw_String_495 (km_Latin1_charAt (yk_G hX) x2 p1) ⟨rfl, by decide, by decide⟩ rfl (Nat.le_trans y_cn (by decide))) (fun x3 => ?_)
    exact y_cret hX 7 rfl hR (fun _ h => h)
theorem km_String_charAt {l : Launch} {G : qm_G} {Y : yY} (hG : yGG G Y) (this : Option Nat) (p1 : Int) : yMM (yQi G Y) l G Y jy_String_charAt prog_19_method_56_code 2 (some .char) 3 64 [va_rf this, yi p1] (kf_String_charAt Y this p1) :=
  y_met (by decide +kernel) jd_String_charAt (fun v hv => by simp only [List.mem_cons, List.not_mem_nil, or_false] at hv; rcases hv with rfl | rfl <;> first | exact yc_D _ | rfl) (by exact Nat.le_of_ble_eq_true rfl) hG (fun X Fn r0 w0 hl hg hn hX hR => by subst hl; subst hg; exact kb_String_charAt hX hR this p1)
def jl_Latin1_canEncode : List qm_I := [(0, .iload_n 0, 1, 1), (1, .sipush 255, 3, 4), (4, .if_icmp .gt 7, 3, 7), (7, .iconst 1, 1, 8), (8, .goto 4, 3, 11), (11, .iconst 0, 1, 12), (12, .ireturn, 1, 13)]
theorem jd_Latin1_canEncode : qm_D prog_21_method_3_code jl_Latin1_canEncode := qm_D_of (by decide +kernel)
noncomputable def kf_Latin1_canEncode (Y : yY) (p1 : Int) : yM Int :=
  yB (yR2 p1 (255 : Int)) fun _ =>
  if (255 : Int) < p1 then
    yB (yNw 1 (0 : Int)) fun _ =>
    yP (0 : Int)
  else
    yB (yNw 1 (1 : Int)) fun _ =>
    yP (1 : Int)
set_option maxRecDepth 20000 in
set_option maxHeartbeats 4000000 in
theorem kb_Latin1_canEncode {X : qm_X} {Y : yY} {Fn : yFn} (hX : y_ok X Y Fn "java/lang/StringLatin1" prog_21_method_3_code 1 0 0 jl_Latin1_canEncode) {r0 : Int} {w0 : yW} (hR : y_RI X Y Fn r0 w0 .boolean) (p1 : Int) : yb X Y Fn (kf_Latin1_canEncode Y p1) 0 [some (yi p1)] [] (fun r w1 => r = r0 ∧ w1 = w0) := by
  unfold kf_Latin1_canEncode
  refine y_iload_n hX 0 rfl rfl ?_
  refine y_sipush hX 1 255 rfl (by decide) ?_
  refine y_icgt hX 2 11 rfl (by decide) ?_ ?_
  ·
    refine y_iconst hX 5 0 rfl (by decide) ?_
    exact y_zret hX 6 (by first | exact Or.inl rfl | exact Or.inr rfl) rfl hR (fun _ h => h)
  ·
    refine y_iconst hX 3 1 rfl (by decide) ?_
    refine y_goto hX 4 (tgt := 12) rfl (by decide) ?_
    exact y_zret hX 6 (by first | exact Or.inl rfl | exact Or.inr rfl) rfl hR (fun _ h => h)
theorem km_Latin1_canEncode {l : Launch} {G : qm_G} {Y : yY} (hG : yGG G Y) (p1 : Int) : yMM (yQi G Y) l G Y jy_Latin1_canEncode prog_21_method_3_code 1 (some .boolean) 0 0 [yi p1] (kf_Latin1_canEncode Y p1) :=
  y_met (by decide +kernel) jd_Latin1_canEncode (fun v hv => by simp only [List.mem_cons, List.not_mem_nil, or_false] at hv; rcases hv with rfl <;> first | exact yc_D _ | rfl) (by exact Nat.le_of_ble_eq_true rfl) hG (fun X Fn r0 w0 hl hg hn hX hR => by subst hl; subst hg; exact kb_Latin1_canEncode hX hR p1)
def jl_ASB_ensureCapacityInternal : List qm_I := [(0, .aload_n 0, 1, 1), (1, .getfield 15, 3, 4), (4, .arraylength, 1, 5), (5, .aload_n 0, 1, 6), (6, .getfield 22, 3, 9), (9, .ishr, 1, 10), (10, .istore_n 2, 1, 11), (11, .iload_n 1, 1, 12), (12, .iload_n 2, 1, 13), (13, .isub, 1, 14), (14, .ifCond .le 24, 3, 17), (17, .aload_n 0, 1, 18), (18, .aload_n 0, 1, 19), (19, .getfield 15, 3, 22), (22, .aload_n 0, 1, 23), (23, .iload_n 1, 1, 24), (24, .invokevirtual 104, 3, 27), (27, .aload_n 0, 1, 28), (28, .getfield 22, 3, 31), (31, .ishl, 1, 32), (32, .invokestatic 108, 3, 35), (35, .putfield 15, 3, 38), (38, .return_, 1, 39)]
theorem jd_ASB_ensureCapacityInternal : qm_D prog_14_method_9_code jl_ASB_ensureCapacityInternal := qm_D_of (by decide +kernel)
noncomputable def kf_ASB_ensureCapacityInternal (Y : yY) (this : Option Nat) (p1 : Int) : yM Unit :=
  yB (yGr 21 this 0) fun x1 =>
  yB (yLn x1) fun x2 =>
  yB (yGt 21 this 1) fun x3 =>
  yB (yP (ybShr x2 x3)) fun x4 =>
  yB (yR (p1 - x4)) fun _ =>
  if (p1 - x4) ≤ 0 then
    yP ()
  else
    yF
set_option maxRecDepth 20000 in
set_option maxHeartbeats 4000000 in
theorem kb_ASB_ensureCapacityInternal {X : qm_X} {Y : yY} {Fn : yFn} (hX : y_ok X Y Fn "java/lang/AbstractStringBuilder" prog_14_method_9_code 3 0 0 jl_ASB_ensureCapacityInternal) {w0 : yW} (hR : y_RV X Y Fn w0) (this : Option Nat) (p1 : Int) : yb X Y Fn (kf_ASB_ensureCapacityInternal Y this p1) 0 [some (va_rf this), some (yi p1), none] [] (fun r w1 => r = () ∧ w1 = w0) := by
  unfold kf_ASB_ensureCapacityInternal
  refine y_aload_n hX 0 rfl rfl ?_
  refine y_getR hX 1 (t := 11) (j := 0) rfl yfl_ASB_15 (by decide) (by decide +kernel) (fun x1 => ?_)
  refine y_alen hX 2 rfl (fun x2 => ?_)
  refine y_aload_n hX 3 rfl rfl ?_
  refine y_get hX 4 (t := 11) (j := 1) rfl yfl_ASB_22 (by decide) (by decide +kernel) (fun x3 => ?_)
  refine y_ishr hX 5 rfl ?_
  refine y_istore_n hX 6 (fun x4 => [some (va_rf this), some (yi p1), some (yi x4)]) rfl (by decide) (fun _ => rfl) (fun x4 => ?_)
  refine y_iload_n hX 7 rfl rfl ?_
  refine y_iload_n hX 8 rfl rfl ?_
  refine y_isub hX 9 rfl ?_
  refine y_ifle hX 10 38 rfl (by decide) ?_ ?_
  ·
    exact y_vret hX 22 rfl hR (fun _ h => And.right h)
  ·
    exact y_F
theorem km_ASB_ensureCapacityInternal {l : Launch} {G : qm_G} {Y : yY} (hG : yGG G Y) (this : Option Nat) (p1 : Int) : yMM (yQv G Y) l G Y jy_ASB_ensureCapacityInternal prog_14_method_9_code 3 none 0 0 [va_rf this, yi p1] (kf_ASB_ensureCapacityInternal Y this p1) :=
  y_met (by decide +kernel) jd_ASB_ensureCapacityInternal (fun v hv => by simp only [List.mem_cons, List.not_mem_nil, or_false] at hv; rcases hv with rfl | rfl <;> first | exact yc_D _ | rfl) (by exact Nat.le_of_ble_eq_true rfl) hG (fun X Fn r0 w0 hl hg hn hX hR => by subst hl; subst hg; exact kb_ASB_ensureCapacityInternal hX hR this p1)
def jl_ASB_inflateIfNeededFor : List qm_I := [(0, .getstatic 18, 3, 3), (3, .ifCond .eq 18, 3, 6), (6, .aload_n 0, 1, 7), (7, .getfield 22, 3, 10), (10, .aload_n 1, 1, 11), (11, .invokevirtual 40, 3, 14), (14, .if_icmp .eq 7, 3, 17), (17, .aload_n 0, 1, 18), (18, .invokevirtual 195, 3, 21), (21, .return_, 1, 22)]
theorem jd_ASB_inflateIfNeededFor : qm_D prog_14_method_71_code jl_ASB_inflateIfNeededFor := qm_D_of (by decide +kernel)
noncomputable def kf_ASB_inflateIfNeededFor (Y : yY) (this : Option Nat) (p1 : Option Nat) : yM Unit :=
  yB (yR (1 : Int)) fun _ =>
  if (1 : Int) = 0 then
    yP ()
  else
    yB (yGt 21 this 1) fun x1 =>
    yB (yKr 22 p1 (kf_String_coder Y p1)) fun x2 =>
    yB (yR2 x1 x2) fun _ =>
    if x1 = x2 then
      yP ()
    else
      yF
set_option maxRecDepth 20000 in
set_option maxHeartbeats 4000000 in
theorem kb_ASB_inflateIfNeededFor {X : qm_X} {Y : yY} {Fn : yFn} (hX : y_ok X Y Fn "java/lang/AbstractStringBuilder" prog_14_method_71_code 2 1 20 jl_ASB_inflateIfNeededFor) {w0 : yW} (hR : y_RV X Y Fn w0) (this : Option Nat) (p1 : Option Nat) : yb X Y Fn (kf_ASB_inflateIfNeededFor Y this p1) 0 [some (va_rf this), some (va_rf p1)] [] (fun r w1 => r = () ∧ w1 = w0) := by
  unfold kf_ASB_inflateIfNeededFor
  refine y_getsC hX 0 rfl ygs_ASB_18 ?_
  refine y_ifeq hX 1 21 rfl (by decide) ?_ ?_
  ·
    exact y_vret hX 9 rfl hR (fun _ h => And.right h)
  ·
    refine y_aload_n hX 2 rfl rfl ?_
    refine y_get hX 3 (t := 11) (j := 1) rfl yfl_ASB_22 (by decide) (by decide +kernel) (fun x1 => ?_)
    refine y_aload_n hX 4 rfl rfl ?_
    refine y_calI hX y_gRo (y_hrVo hX 5 (t := 12) (As := []) (a := p1) rfl ycw_ASB_40 (fun p e => by cases e; exact km_String_coder (yk_G hX) p) (by decide) ⟨rfl, rfl, rfl, by decide, by decide⟩ rfl (Nat.le_trans (y_cs (yc_I _) y_cn) (by decide))) (fun x2 => ?_)
    refine y_iceq hX 6 21 rfl (by decide) ?_ ?_
    ·
      exact y_vret hX 9 rfl hR (fun _ h => And.right h)
    ·
      exact y_F
theorem km_ASB_inflateIfNeededFor {l : Launch} {G : qm_G} {Y : yY} (hG : yGG G Y) (this : Option Nat) (p1 : Option Nat) : yMM (yQv G Y) l G Y jy_ASB_inflateIfNeededFor prog_14_method_71_code 2 none 1 20 [va_rf this, va_rf p1] (kf_ASB_inflateIfNeededFor Y this p1) :=
  y_met (by decide +kernel) jd_ASB_inflateIfNeededFor (fun v hv => by simp only [List.mem_cons, List.not_mem_nil, or_false] at hv; rcases hv with rfl | rfl <;> first | exact yc_D _ | rfl) (by exact Nat.le_of_ble_eq_true rfl) hG (fun X Fn r0 w0 hl hg hn hX hR => by subst hl; subst hg; exact kb_ASB_inflateIfNeededFor hX hR this p1)
def jl_String_getBytes : List qm_I := [(0, .aload_n 0, 1, 1), (1, .invokevirtual 335, 3, 4), (4, .iload_n 3, 1, 5), (5, .if_icmp .ne 23, 3, 8), (8, .aload_n 0, 1, 9), (9, .getfield 9, 3, 12), (12, .iconst 0, 1, 13), (13, .aload_n 1, 1, 14), (14, .iload_n 2, 1, 15), (15, .iload_n 3, 1, 16), (16, .ishl, 1, 17), (17, .aload_n 0, 1, 18), (18, .getfield 9, 3, 21), (21, .arraylength, 1, 22), (22, .invokestatic 212, 3, 25), (25, .goto 18, 3, 28), (28, .aload_n 0, 1, 29), (29, .getfield 9, 3, 32), (32, .iconst 0, 1, 33), (33, .aload_n 1, 1, 34), (34, .iload_n 2, 1, 35), (35, .aload_n 0, 1, 36), (36, .getfield 9, 3, 39), (39, .arraylength, 1, 40), (40, .invokestatic 106, 3, 43), (43, .return_, 1, 44)]
theorem jd_String_getBytes : qm_D prog_19_method_147_code jl_String_getBytes := qm_D_of (by decide +kernel)
noncomputable def kf_String_getBytes (Y : yY) (this : Option Nat) (p1 : Option Nat) (p2 : Int) (p3 : Int) : yM Unit :=
  yB (yKr 22 this (kf_String_coder Y this)) fun x1 =>
  yB (yR2 x1 p3) fun _ =>
  if ¬ x1 = p3 then
    yF
  else
    yB (yGr 22 this 0) fun x2 =>
    yB (yGr 22 this 0) fun x3 =>
    yB (yLn x3) fun x4 =>
    yB (yCp 3 x2 (0 : Int) p1 (ybShl p2 p3) x4) fun _ =>
    yP ()
set_option maxRecDepth 20000 in
set_option maxHeartbeats 4000000 in
theorem kb_String_getBytes {X : qm_X} {Y : yY} {Fn : yFn} (hX : y_ok X Y Fn "java/lang/String" prog_19_method_147_code 4 1 26 jl_String_getBytes) {w0 : yW} (hR : y_RV X Y Fn w0) (this : Option Nat) (p1 : Option Nat) (p2 : Int) (p3 : Int) : yb X Y Fn (kf_String_getBytes Y this p1 p2 p3) 0 [some (va_rf this), some (va_rf p1), some (yi p2), some (yi p3)] [] (fun r w1 => r = () ∧ w1 = w0) := by
  unfold kf_String_getBytes
  refine y_aload_n hX 0 rfl rfl ?_
  refine y_calI hX y_gRo (y_hrVo hX 1 (t := 12) (As := []) (a := this) rfl ycw_String_335 (fun p e => by cases e; exact km_String_coder (yk_G hX) p) (by decide) ⟨rfl, rfl, rfl, by decide, by decide⟩ rfl (Nat.le_trans y_cn (by decide))) (fun x1 => ?_)
  refine y_iload_n hX 2 rfl rfl ?_
  refine y_icne hX 3 28 rfl (by decide) ?_ ?_
  ·
    exact y_F
  ·
    refine y_aload_n hX 4 rfl rfl ?_
    refine y_getsR hX 5 rfl yfl_String_9 yfw_String_9 (fun x2 => ?_)
    refine y_iconst hX 6 0 rfl (by decide) ?_
    refine y_aload_n hX 7 rfl rfl ?_
    refine y_iload_n hX 8 rfl rfl ?_
    refine y_iload_n hX 9 rfl rfl ?_
    refine y_ishl hX 10 rfl ?_
    refine y_aload_n hX 11 rfl rfl ?_
    refine y_getsR hX 12 rfl yfl_String_9 yfw_String_9 (fun x3 => ?_)
    refine y_alen hX 13 rfl (fun x4 => ?_)
    refine y_copy hX 14 (t := 3) (by decide) rfl yac_String_212 yar_1 yar_2 yar_3 ⟨by decide, by decide⟩ (Nat.le_trans y_cn (by decide)) ?_
    refine y_goto hX 15 (tgt := 43) rfl (by decide) ?_
    exact y_vret hX 25 rfl hR (fun _ h => And.right h)
theorem km_String_getBytes {l : Launch} {G : qm_G} {Y : yY} (hG : yGG G Y) (this : Option Nat) (p1 : Option Nat) (p2 : Int) (p3 : Int) : yMM (yQv G Y) l G Y jy_String_getBytes prog_19_method_147_code 4 none 1 26 [va_rf this, va_rf p1, yi p2, yi p3] (kf_String_getBytes Y this p1 p2 p3) :=
  y_met (by decide +kernel) jd_String_getBytes (fun v hv => by simp only [List.mem_cons, List.not_mem_nil, or_false] at hv; rcases hv with rfl | rfl | rfl | rfl <;> first | exact yc_D _ | rfl) (by exact Nat.le_of_ble_eq_true rfl) hG (fun X Fn r0 w0 hl hg hn hX hR => by subst hl; subst hg; exact kb_String_getBytes hX hR this p1 p2 p3)
