def jl_Flat_init : List qm_I := [(0, .aload_n 0, 1, 1), (1, .invokespecial 1, 3, 4), (4, .aload_n 0, 1, 5), (5, .bipush 100, 2, 7), (7, .newarray .int, 2, 9), (9, .putfield 7, 3, 12), (12, .aload_n 0, 1, 13), (13, .bipush 100, 2, 15), (15, .newarray .int, 2, 17), (17, .putfield 13, 3, 20), (20, .aload_n 0, 1, 21), (21, .bipush 100, 2, 23), (23, .newarray .int, 2, 25), (25, .putfield 16, 3, 28), (28, .aload_n 0, 1, 29), (29, .bipush 100, 2, 31), (31, .newarray .int, 2, 33), (33, .putfield 19, 3, 36), (36, .aload_n 0, 1, 37), (37, .bipush 100, 2, 39), (39, .newarray .int, 2, 41), (41, .putfield 22, 3, 44), (44, .aload_n 0, 1, 45), (45, .bipush 100, 2, 47), (47, .newarray .int, 2, 49), (49, .putfield 25, 3, 52), (52, .aload_n 0, 1, 53), (53, .bipush 20, 2, 55), (55, .newarray .int, 2, 57), (57, .putfield 28, 3, 60), (60, .aload_n 0, 1, 61), (61, .bipush 20, 2, 63), (63, .newarray .int, 2, 65), (65, .putfield 31, 3, 68), (68, .aload_n 0, 1, 69), (69, .aload_n 1, 1, 70), (70, .putfield 34, 3, 73), (73, .aload_n 0, 1, 74), (74, .aload_n 1, 1, 75), (75, .getfield 38, 3, 78), (78, .ifCond .ne 7, 3, 81), (81, .iconst 0, 1, 82), (82, .goto 4, 3, 85), (85, .iconst 1, 1, 86), (86, .putfield 44, 3, 89), (89, .iconst 0, 1, 90), (90, .istore_n 2, 1, 91), (91, .iload_n 2, 1, 92), (92, .aload_n 1, 1, 93), (93, .getfield 38, 3, 96), (96, .if_icmp .ge 225, 3, 99), (99, .aload_n 1, 1, 100), (100, .getfield 47, 3, 103), (103, .iload_n 2, 1, 104), (104, .aaload, 1, 105), (105, .astore_n 3, 1, 106), (106, .aload_n 3, 1, 107), (107, .iconst 0, 1, 108), (108, .iaload, 1, 109), (109, .iconst 4, 1, 110), (110, .if_icmp .ne 38, 3, 113), (113, .aload_n 0, 1, 114), (114, .getfield 31, 3, 117), (117, .aload_n 0, 1, 118), (118, .getfield 44, 3, 121), (121, .aload_n 3, 1, 122), (122, .iconst 2, 1, 123), (123, .iaload, 1, 124), (124, .iastore, 1, 125), (125, .aload_n 0, 1, 126), (126, .getfield 28, 3, 129), (129, .aload_n 0, 1, 130), (130, .getfield 44, 3, 133), (133, .aload_n 0, 1, 134), (134, .getfield 50, 3, 137), (137, .iastore, 1, 138), (138, .aload_n 0, 1, 139), (139, .dup, 1, 140), (140, .getfield 44, 3, 143), (143, .iconst 1, 1, 144), (144, .iadd, 1, 145), (145, .putfield 44, 3, 148), (148, .iconst 0, 1, 149), (149, .istore 4, 2, 151), (151, .iload 4, 2, 153), (153, .aload_n 3, 1, 154), (154, .iconst 1, 1, 155), (155, .iaload, 1, 156), (156, .if_icmp .ge 159, 3, 159), (159, .aload_n 0, 1, 160), (160, .getfield 7, 3, 163), (163, .aload_n 0, 1, 164), (164, .getfield 50, 3, 167), (167, .iload_n 2, 1, 168), (168, .iastore, 1, 169), (169, .aload_n 0, 1, 170), (170, .getfield 13, 3, 173), (173, .aload_n 0, 1, 174), (174, .getfield 50, 3, 177), (177, .iload 4, 2, 179), (179, .iastore, 1, 180), (180, .aload_n 0, 1, 181), (181, .getfield 16, 3, 184), (184, .aload_n 0, 1, 185), (185, .getfield 50, 3, 188), (188, .aload_n 3, 1, 189), (189, .iconst 2, 1, 190), (190, .iaload, 1, 191), (191, .iload 4, 2, 193), (193, .ifCond .ne 9, 3, 196), (196, .aload_n 3, 1, 197), (197, .iconst 3, 1, 198), (198, .iaload, 1, 199), (199, .goto 4, 3, 202), (202, .iconst 0, 1, 203), (203, .iadd, 1, 204), (204, .iastore, 1, 205), (205, .aload_n 0, 1, 206), (206, .getfield 19, 3, 209), (209, .aload_n 0, 1, 210), (210, .getfield 50, 3, 213), (213, .iload 4, 2, 215), (215, .ifCond .ne 10, 3, 218), (218, .aload_n 3, 1, 219), (219, .bipush 6, 2, 221), (221, .iaload, 1, 222), (222, .goto 4, 3, 225), (225, .iconst 0, 1, 226), (226, .iastore, 1, 227), (227, .iconst 0, 1, 228), (228, .istore 5, 2, 230), (230, .iload 5, 2, 232), (232, .aload_n 1, 1, 233), (233, .getfield 53, 3, 236), (236, .iload_n 2, 1, 237), (237, .aaload, 1, 238), (238, .arraylength, 1, 239), (239, .if_icmp .ge 45, 3, 242), (242, .aload_n 1, 1, 243), (243, .getfield 53, 3, 246), (246, .iload_n 2, 1, 247), (247, .aaload, 1, 248), (248, .iload 5, 2, 250), (250, .iaload, 1, 251), (251, .iload 4, 2, 253), (253, .iconst 1, 1, 254), (254, .iadd, 1, 255), (255, .if_icmp .ne 23, 3, 258), (258, .aload_n 0, 1, 259), (259, .getfield 22, 3, 262), (262, .aload_n 0, 1, 263), (263, .getfield 50, 3, 266), (266, .aload_n 1, 1, 267), (267, .getfield 53, 3, 270), (270, .iload_n 2, 1, 271), (271, .aaload, 1, 272), (272, .iload 5, 2, 274), (274, .iconst 1, 1, 275), (275, .iadd, 1, 276), (276, .iaload, 1, 277), (277, .iastore, 1, 278), (278, .iinc 5 2, 3, 281), (281, .goto (-51), 3, 284), (284, .aload_n 0, 1, 285), (285, .getfield 25, 3, 288), (288, .aload_n 0, 1, 289), (289, .getfield 50, 3, 292), (292, .aload_n 0, 1, 293), (293, .getfield 44, 3, 296), (296, .iconst 1, 1, 297), (297, .isub, 1, 298), (298, .iastore, 1, 299), (299, .aload_n 0, 1, 300), (300, .dup, 1, 301), (301, .getfield 50, 3, 304), (304, .iconst 1, 1, 305), (305, .iadd, 1, 306), (306, .putfield 50, 3, 309), (309, .iinc 4 1, 3, 312), (312, .goto (-161), 3, 315), (315, .iinc 2 1, 3, 318), (318, .goto (-227), 3, 321), (321, .aload_n 0, 1, 322), (322, .getfield 28, 3, 325), (325, .aload_n 0, 1, 326), (326, .getfield 44, 3, 329), (329, .aload_n 0, 1, 330), (330, .getfield 50, 3, 333), (333, .iastore, 1, 334), (334, .return_, 1, 335)]
theorem jd_Flat_init : qm_D prog_11_method_1_code jl_Flat_init := qm_D_of (by decide +kernel)
noncomputable def kf_Flat_init (Y : yY) (this : Option Nat) (p1 : Option Nat) : yM Unit :=
  yB (yNn this) fun _ =>
  yB (yNa 1 (100 : Int)) fun x1 =>
  yB (yPr 19 this 1 x1) fun _ =>
  yB (yNa 1 (100 : Int)) fun x2 =>
  yB (yPr 19 this 2 x2) fun _ =>
  yB (yNa 1 (100 : Int)) fun x3 =>
  yB (yPr 19 this 3 x3) fun _ =>
  yB (yNa 1 (100 : Int)) fun x4 =>
  yB (yPr 19 this 4 x4) fun _ =>
  yB (yNa 1 (100 : Int)) fun x5 =>
  yB (yPr 19 this 5 x5) fun _ =>
  yB (yNa 1 (100 : Int)) fun x6 =>
  yB (yPr 19 this 6 x6) fun _ =>
  yB (yNa 1 (20 : Int)) fun x7 =>
  yB (yPr 19 this 7 x7) fun _ =>
  yB (yNa 1 (20 : Int)) fun x8 =>
  yB (yPr 19 this 8 x8) fun _ =>
  yB (yPr 19 this 0 p1) fun _ =>
  yB (yGt 20 p1 1) fun x9 =>
  yB (α := Int) (
    yB (yR x9) fun _ =>
    if ¬ x9 = 0 then
      yP (1 : Int)
    else
      yP (0 : Int)) fun s10 =>
  yB (yPt 19 this 10 s10) fun _ =>
  yB (yP (0 : Int)) fun x11 =>
  yB (α := Unit) (
    yLp (S := Int) (α := Unit) (fun s13 =>
      yB (yGt 20 p1 1) fun x14 =>
      yB (yR2 s13 x14) fun _ =>
      if x14 ≤ s13 then
        yP (Sum.inr ())
      else
        yB (yGr 20 p1 2) fun x15 =>
        yB (yLr 4 x15 s13) fun x16 =>
        yB (yP x16) fun x17 =>
        yB (yLd 1 x17 (0 : Int)) fun x18 =>
        yB (α := Unit) (
          yB (yR2 x18 (4 : Int)) fun _ =>
          if ¬ x18 = (4 : Int) then
            yP ()
          else
            yB (yGr 19 this 8) fun x20 =>
            yB (yGt 19 this 10) fun x21 =>
            yB (yLd 1 x17 (2 : Int)) fun x22 =>
            yB (ySt x20 x21 x22) fun _ =>
            yB (yGr 19 this 7) fun x23 =>
            yB (yGt 19 this 10) fun x24 =>
            yB (yGt 19 this 9) fun x25 =>
            yB (ySt x23 x24 x25) fun _ =>
            yB (yGt 19 this 10) fun x26 =>
            yB (yPt 19 this 10 (x26 + (1 : Int))) fun _ =>
            yP ()) fun s19 =>
        yB (yP (0 : Int)) fun x27 =>
        yB (α := Unit) (
          yLp (S := Int) (α := Unit) (fun s29 =>
            yB (yLd 1 x17 (1 : Int)) fun x30 =>
            yB (yR2 s29 x30) fun _ =>
            if x30 ≤ s29 then
              yP (Sum.inr ())
            else
              yB (yGr 19 this 1) fun x31 =>
              yB (yGt 19 this 9) fun x32 =>
              yB (ySt x31 x32 s13) fun _ =>
              yB (yGr 19 this 2) fun x33 =>
              yB (yGt 19 this 9) fun x34 =>
              yB (ySt x33 x34 s29) fun _ =>
              yB (yGr 19 this 3) fun x35 =>
              yB (yGt 19 this 9) fun x36 =>
              yB (yLd 1 x17 (2 : Int)) fun x37 =>
              yB (α := Int) (
                yB (yR s29) fun _ =>
                if ¬ s29 = 0 then
                  yP (0 : Int)
                else
                  yB (yLd 1 x17 (3 : Int)) fun x39 =>
                  yP x39) fun s38 =>
              yB (ySt x35 x36 (x37 + s38)) fun _ =>
              yB (yGr 19 this 4) fun x40 =>
              yB (yGt 19 this 9) fun x41 =>
              yB (α := Int) (
                yB (yR s29) fun _ =>
                if ¬ s29 = 0 then
                  yP (0 : Int)
                else
                  yB (yLd 1 x17 (6 : Int)) fun x43 =>
                  yP x43) fun s42 =>
              yB (ySt x40 x41 s42) fun _ =>
              yB (yP (0 : Int)) fun x44 =>
              yB (α := Unit) (
                yLp (S := Int) (α := Unit) (fun s46 =>
                  yB (yGr 20 p1 3) fun x47 =>
                  yB (yLr 4 x47 s13) fun x48 =>
                  yB (yLn x48) fun x49 =>
                  yB (yR2 s46 x49) fun _ =>
                  if x49 ≤ s46 then
                    yP (Sum.inr ())
                  else
                    yB (yGr 20 p1 3) fun x50 =>
                    yB (yLr 4 x50 s13) fun x51 =>
                    yB (yLd 1 x51 s46) fun x52 =>
                    yB (α := Unit) (
                      yB (yR2 x52 (s29 + (1 : Int))) fun _ =>
                      if ¬ x52 = (s29 + (1 : Int)) then
                        yP ()
                      else
                        yB (yGr 19 this 5) fun x54 =>
                        yB (yGt 19 this 9) fun x55 =>
                        yB (yGr 20 p1 3) fun x56 =>
                        yB (yLr 4 x56 s13) fun x57 =>
                        yB (yLd 1 x57 (s46 + (1 : Int))) fun x58 =>
                        yB (ySt x54 x55 x58) fun _ =>
                        yP ()) fun s53 =>
                    yB (yP (s46 + 2)) fun x59 =>
                    yP (Sum.inl x59)) x44) fun s45 =>
              yB (yGr 19 this 6) fun x60 =>
              yB (yGt 19 this 9) fun x61 =>
              yB (yGt 19 this 10) fun x62 =>
              yB (ySt x60 x61 (x62 - (1 : Int))) fun _ =>
              yB (yGt 19 this 9) fun x63 =>
              yB (yPt 19 this 9 (x63 + (1 : Int))) fun _ =>
              yB (yP (s29 + 1)) fun x64 =>
              yP (Sum.inl x64)) x27) fun s28 =>
        yB (yP (s13 + 1)) fun x65 =>
        yP (Sum.inl x65)) x11) fun s12 =>
  yB (yGr 19 this 7) fun x66 =>
  yB (yGt 19 this 10) fun x67 =>
  yB (yGt 19 this 9) fun x68 =>
  yB (ySt x66 x67 x68) fun _ =>
  yP ()
set_option maxRecDepth 20000 in
set_option maxHeartbeats 4000000 in
theorem kb_Flat_init {X : qm_X} {Y : yY} {Fn : yFn} (hX : y_ok X Y Fn qr_Flat prog_11_method_1_code 6 1 12 jl_Flat_init) {w0 : yW} (hR : y_RV X Y Fn w0) (hN : (qx_meth X).name = "<init>") (this : Option Nat) (p1 : Option Nat) : yb X Y Fn (kf_Flat_init Y this p1) 0 [some (va_rf this), some (va_rf p1), none, none, none, none] [] (fun r w1 => r = () ∧ w1 = w0) := by
  unfold kf_Flat_init
  refine y_aload_n hX 0 rfl rfl ?_
  refine y_objO hX 1 rfl yob_Flat_1 ⟨by decide, by decide⟩ ?_
  refine y_aload_n hX 2 rfl rfl ?_
  refine y_bipush hX 3 100 rfl (by decide) ?_
  refine y_newa hX 4 (t := 1) rfl zw_int rfl (by decide) (fun x1 => ?_)
  refine y_putR hX 5 1 (t := 9) (j := 1) rfl yfp_Flat_7 (fun _ => hN) (by decide) (by decide +kernel) (by first | exact Or.inr ⟨_, rfl⟩ | exact Or.inl ⟨_, rfl⟩) ?_
  refine y_aload_n hX 6 rfl rfl ?_
  refine y_bipush hX 7 100 rfl (by decide) ?_
  refine y_newa hX 8 (t := 1) rfl zw_int rfl (by decide) (fun x2 => ?_)
  refine y_putR hX 9 1 (t := 9) (j := 2) rfl yfp_Flat_13 (fun _ => hN) (by decide) (by decide +kernel) (by first | exact Or.inr ⟨_, rfl⟩ | exact Or.inl ⟨_, rfl⟩) ?_
  refine y_aload_n hX 10 rfl rfl ?_
  refine y_bipush hX 11 100 rfl (by decide) ?_
  refine y_newa hX 12 (t := 1) rfl zw_int rfl (by decide) (fun x3 => ?_)
  refine y_putR hX 13 1 (t := 9) (j := 3) rfl yfp_Flat_16 (fun _ => hN) (by decide) (by decide +kernel) (by first | exact Or.inr ⟨_, rfl⟩ | exact Or.inl ⟨_, rfl⟩) ?_
  refine y_aload_n hX 14 rfl rfl ?_
  refine y_bipush hX 15 100 rfl (by decide) ?_
  refine y_newa hX 16 (t := 1) rfl zw_int rfl (by decide) (fun x4 => ?_)
  refine y_putR hX 17 1 (t := 9) (j := 4) rfl yfp_Flat_19 (fun _ => hN) (by decide) (by decide +kernel) (by first | exact Or.inr ⟨_, rfl⟩ | exact Or.inl ⟨_, rfl⟩) ?_
  refine y_aload_n hX 18 rfl rfl ?_
  refine y_bipush hX 19 100 rfl (by decide) ?_
  refine y_newa hX 20 (t := 1) rfl zw_int rfl (by decide) (fun x5 => ?_)
  refine y_putR hX 21 1 (t := 9) (j := 5) rfl yfp_Flat_22 (fun _ => hN) (by decide) (by decide +kernel) (by first | exact Or.inr ⟨_, rfl⟩ | exact Or.inl ⟨_, rfl⟩) ?_
  refine y_aload_n hX 22 rfl rfl ?_
  refine y_bipush hX 23 100 rfl (by decide) ?_
  refine y_newa hX 24 (t := 1) rfl zw_int rfl (by decide) (fun x6 => ?_)
  refine y_putR hX 25 1 (t := 9) (j := 6) rfl yfp_Flat_25 (fun _ => hN) (by decide) (by decide +kernel) (by first | exact Or.inr ⟨_, rfl⟩ | exact Or.inl ⟨_, rfl⟩) ?_
  refine y_aload_n hX 26 rfl rfl ?_
  refine y_bipush hX 27 20 rfl (by decide) ?_
  refine y_newa hX 28 (t := 1) rfl zw_int rfl (by decide) (fun x7 => ?_)
  refine y_putR hX 29 1 (t := 9) (j := 7) rfl yfp_Flat_28 (fun _ => hN) (by decide) (by decide +kernel) (by first | exact Or.inr ⟨_, rfl⟩ | exact Or.inl ⟨_, rfl⟩) ?_
  refine y_aload_n hX 30 rfl rfl ?_
  refine y_bipush hX 31 20 rfl (by decide) ?_
  refine y_newa hX 32 (t := 1) rfl zw_int rfl (by decide) (fun x8 => ?_)
  refine y_putR hX 33 1 (t := 9) (j := 8) rfl yfp_Flat_31 (fun _ => hN) (by decide) (by decide +kernel) (by first | exact Or.inr ⟨_, rfl⟩ | exact Or.inl ⟨_, rfl⟩) ?_
  refine y_aload_n hX 34 rfl rfl ?_
  refine y_aload_n hX 35 rfl rfl ?_
  refine y_putR hX 36 1 (t := 9) (j := 0) rfl yfp_Flat_34 (fun _ => hN) (by decide) (by decide +kernel) (by first | exact Or.inr ⟨_, rfl⟩ | exact Or.inl ⟨_, rfl⟩) ?_
  refine y_aload_n hX 37 rfl rfl ?_
  refine y_aload_n hX 38 rfl rfl ?_
  refine y_getN hX 39 (t := 10) (j := 1) rfl yfl_Flat_38 (by decide) (by decide +kernel) (fun x9 => ?_)
  refine y_join (S := Int) 86 (fun s10 => [some (va_rf this), some (va_rf p1), none, none, none, none]) (fun s10 => [yi s10, va_rf this]) ?_ ?_
  ·
    refine y_ifne hX 40 85 rfl (by decide) ?_ ?_
    ·
      refine y_iconst hX 43 1 rfl (by decide) ?_
      exact y_exit (fun w h => yj_wk (ρ' := [some (va_rf this), some (va_rf p1), none, none, none, none]) (qw_s (qw_s (qw_n (qw_n (qw_n (qw_n (qw_0))))))) h)
    ·
      refine y_iconst hX 41 0 rfl (by decide) ?_
      exact y_exit (fun w h => yj_goto hX 42 rfl (by decide) (yj_wk (ρ' := [some (va_rf this), some (va_rf p1), none, none, none, none]) (qw_s (qw_s (qw_n (qw_n (qw_n (qw_n (qw_0))))))) h))
  · intro s10
    refine y_putI hX 44 0 (t := 9) (j := 10) rfl yfp_Flat_44 (fun h => absurd h (by decide)) (by decide) (by decide +kernel) ?_
    refine y_iconst hX 45 0 rfl (by decide) ?_
    refine y_istore_n hX 46 (fun x11 => [some (va_rf this), some (va_rf p1), some (yi x11), none, none, none]) rfl (by decide) (fun _ => rfl) (fun x11 => ?_)
    refine y_join (S := Unit) 321 (fun s12 => [some (va_rf this), none, none, none, none, none]) (fun s12 => []) ?_ ?_
    ·
      refine y_loopw (S := Int) (x11) (fun s13 => [some (va_rf this), some (va_rf p1), some (yi s13), none, none, none]) (qw_s (qw_s (qw_s (qw_n (qw_n (qw_n (qw_0))))))) (fun s13 => ?_)
      refine y_iload_n hX 47 rfl rfl ?_
      refine y_aload_n hX 48 rfl rfl ?_
      refine y_getN hX 49 (t := 10) (j := 1) rfl yfl_Flat_38 (by decide) (by decide +kernel) (fun x14 => ?_)
      refine y_icge hX 50 321 rfl (by decide) ?_ ?_
      ·
        exact y_exit (fun w h => yj_wk (ρ' := [some (va_rf this), none, none, none, none, none]) (qw_s (qw_n (qw_n (qw_n (qw_n (qw_n (qw_0))))))) h)
      ·
        refine y_aload_n hX 51 rfl rfl ?_
        refine y_getNR hX 52 (t := 10) (j := 2) rfl yfl_Flat_47 (by decide) (by decide +kernel) (fun x15 => ?_)
        refine y_iload_n hX 53 rfl rfl ?_
        refine y_aald hX 54 (t := 4) (by decide) rfl (fun x16 => ?_)
        refine y_astore_n hX 55 (fun x17 => [some (va_rf this), some (va_rf p1), some (yi s13), some (va_rf x17), none, none]) rfl (by decide) (fun _ => rfl) (fun x17 => ?_)
        refine y_aload_n hX 56 rfl rfl ?_
        refine y_iconst hX 57 0 rfl (by decide) ?_
        refine y_iald hX 58 rfl (fun x18 => ?_)
        refine y_iconst hX 59 4 rfl (by decide) ?_
        refine y_join (S := Unit) 148 (fun s19 => [some (va_rf this), some (va_rf p1), some (yi s13), some (va_rf x17), none, none]) (fun s19 => []) ?_ ?_
        ·
          refine y_icne hX 60 148 rfl (by decide) ?_ ?_
          ·
            exact y_exit (fun w h => yj_wk (ρ' := [some (va_rf this), some (va_rf p1), some (yi s13), some (va_rf x17), none, none]) (qw_s (qw_s (qw_s (qw_s (qw_n (qw_n (qw_0))))))) h)
          ·
            refine y_aload_n hX 61 rfl rfl ?_
            refine y_getR hX 62 (t := 9) (j := 8) rfl yfl_Flat_31 (by decide) (by decide +kernel) (fun x20 => ?_)
            refine y_aload_n hX 63 rfl rfl ?_
            refine y_get hX 64 (t := 9) (j := 10) rfl yfl_Flat_44 (by decide) (by decide +kernel) (fun x21 => ?_)
            refine y_aload_n hX 65 rfl rfl ?_
            refine y_iconst hX 66 2 rfl (by decide) ?_
            refine y_iald hX 67 rfl (fun x22 => ?_)
            refine y_iast hX 68 rfl ?_
            refine y_aload_n hX 69 rfl rfl ?_
            refine y_getR hX 70 (t := 9) (j := 7) rfl yfl_Flat_28 (by decide) (by decide +kernel) (fun x23 => ?_)
            refine y_aload_n hX 71 rfl rfl ?_
            refine y_get hX 72 (t := 9) (j := 10) rfl yfl_Flat_44 (by decide) (by decide +kernel) (fun x24 => ?_)
            refine y_aload_n hX 73 rfl rfl ?_
            refine y_get hX 74 (t := 9) (j := 9) rfl yfl_Flat_50 (by decide) (by decide +kernel) (fun x25 => ?_)
            refine y_iast hX 75 rfl ?_
            refine y_aload_n hX 76 rfl rfl ?_
            refine y_dup hX 77 rfl (yc_D _) ?_
            refine y_get hX 78 (t := 9) (j := 10) rfl yfl_Flat_44 (by decide) (by decide +kernel) (fun x26 => ?_)
            refine y_iconst hX 79 1 rfl (by decide) ?_
            refine y_iadd hX 80 rfl ?_
            refine y_putI hX 81 0 (t := 9) (j := 10) rfl yfp_Flat_44 (fun h => absurd h (by decide)) (by decide) (by decide +kernel) ?_
            exact y_exit (fun w h => yj_wk (ρ' := [some (va_rf this), some (va_rf p1), some (yi s13), some (va_rf x17), none, none]) (qw_s (qw_s (qw_s (qw_s (qw_n (qw_n (qw_0))))))) h)
        · intro s19
          refine y_iconst hX 82 0 rfl (by decide) ?_
          refine y_istore hX 83 (fun x27 => [some (va_rf this), some (va_rf p1), some (yi s13), some (va_rf x17), some (yi x27), none]) rfl (by decide) (fun _ => rfl) (fun x27 => ?_)
          refine y_join (S := Unit) 315 (fun s28 => [some (va_rf this), some (va_rf p1), some (yi s13), none, none, none]) (fun s28 => []) ?_ ?_
          ·
            refine y_loopw (S := Int) (x27) (fun s29 => [some (va_rf this), some (va_rf p1), some (yi s13), some (va_rf x17), some (yi s29), none]) (qw_s (qw_s (qw_s (qw_s (qw_s (qw_n (qw_0))))))) (fun s29 => ?_)
            refine y_iload hX 84 rfl rfl ?_
            refine y_aload_n hX 85 rfl rfl ?_
            refine y_iconst hX 86 1 rfl (by decide) ?_
            refine y_iald hX 87 rfl (fun x30 => ?_)
            refine y_icge hX 88 315 rfl (by decide) ?_ ?_
            ·
              exact y_exit (fun w h => yj_wk (ρ' := [some (va_rf this), some (va_rf p1), some (yi s13), none, none, none]) (qw_s (qw_s (qw_s (qw_n (qw_n (qw_n (qw_0))))))) h)
            ·
              refine y_aload_n hX 89 rfl rfl ?_
              refine y_getR hX 90 (t := 9) (j := 1) rfl yfl_Flat_7 (by decide) (by decide +kernel) (fun x31 => ?_)
              refine y_aload_n hX 91 rfl rfl ?_
              refine y_get hX 92 (t := 9) (j := 9) rfl yfl_Flat_50 (by decide) (by decide +kernel) (fun x32 => ?_)
              refine y_iload_n hX 93 rfl rfl ?_
              refine y_iast hX 94 rfl ?_
              refine y_aload_n hX 95 rfl rfl ?_
              refine y_getR hX 96 (t := 9) (j := 2) rfl yfl_Flat_13 (by decide) (by decide +kernel) (fun x33 => ?_)
              refine y_aload_n hX 97 rfl rfl ?_
              refine y_get hX 98 (t := 9) (j := 9) rfl yfl_Flat_50 (by decide) (by decide +kernel) (fun x34 => ?_)
              refine y_iload hX 99 rfl rfl ?_
              refine y_iast hX 100 rfl ?_
              refine y_aload_n hX 101 rfl rfl ?_
              refine y_getR hX 102 (t := 9) (j := 3) rfl yfl_Flat_16 (by decide) (by decide +kernel) (fun x35 => ?_)
              refine y_aload_n hX 103 rfl rfl ?_
              refine y_get hX 104 (t := 9) (j := 9) rfl yfl_Flat_50 (by decide) (by decide +kernel) (fun x36 => ?_)
              refine y_aload_n hX 105 rfl rfl ?_
              refine y_iconst hX 106 2 rfl (by decide) ?_
              refine y_iald hX 107 rfl (fun x37 => ?_)
              refine y_iload hX 108 rfl rfl ?_
              refine y_join (S := Int) 203 (fun s38 => [some (va_rf this), some (va_rf p1), some (yi s13), some (va_rf x17), some (yi s29), none]) (fun s38 => [yi s38, yi x37, yi x36, va_rf x35]) ?_ ?_
              ·
                refine y_ifne hX 109 202 rfl (by decide) ?_ ?_
                ·
                  refine y_iconst hX 114 0 rfl (by decide) ?_
                  exact y_exit (fun w h => yj_wk (ρ' := [some (va_rf this), some (va_rf p1), some (yi s13), some (va_rf x17), some (yi s29), none]) (qw_s (qw_s (qw_s (qw_s (qw_s (qw_n (qw_0))))))) h)
                ·
                  refine y_aload_n hX 110 rfl rfl ?_
                  refine y_iconst hX 111 3 rfl (by decide) ?_
                  refine y_iald hX 112 rfl (fun x39 => ?_)
                  exact y_exit (fun w h => yj_goto hX 113 rfl (by decide) (yj_wk (ρ' := [some (va_rf this), some (va_rf p1), some (yi s13), some (va_rf x17), some (yi s29), none]) (qw_s (qw_s (qw_s (qw_s (qw_s (qw_n (qw_0))))))) h))
              · intro s38
                refine y_iadd hX 115 rfl ?_
                refine y_iast hX 116 rfl ?_
                refine y_aload_n hX 117 rfl rfl ?_
                refine y_getR hX 118 (t := 9) (j := 4) rfl yfl_Flat_19 (by decide) (by decide +kernel) (fun x40 => ?_)
                refine y_aload_n hX 119 rfl rfl ?_
                refine y_get hX 120 (t := 9) (j := 9) rfl yfl_Flat_50 (by decide) (by decide +kernel) (fun x41 => ?_)
                refine y_iload hX 121 rfl rfl ?_
                refine y_join (S := Int) 226 (fun s42 => [some (va_rf this), some (va_rf p1), some (yi s13), some (va_rf x17), some (yi s29), none]) (fun s42 => [yi s42, yi x41, va_rf x40]) ?_ ?_
                ·
                  refine y_ifne hX 122 225 rfl (by decide) ?_ ?_
                  ·
                    refine y_iconst hX 127 0 rfl (by decide) ?_
                    exact y_exit (fun w h => yj_wk (ρ' := [some (va_rf this), some (va_rf p1), some (yi s13), some (va_rf x17), some (yi s29), none]) (qw_s (qw_s (qw_s (qw_s (qw_s (qw_n (qw_0))))))) h)
                  ·
                    refine y_aload_n hX 123 rfl rfl ?_
                    refine y_bipush hX 124 6 rfl (by decide) ?_
                    refine y_iald hX 125 rfl (fun x43 => ?_)
                    exact y_exit (fun w h => yj_goto hX 126 rfl (by decide) (yj_wk (ρ' := [some (va_rf this), some (va_rf p1), some (yi s13), some (va_rf x17), some (yi s29), none]) (qw_s (qw_s (qw_s (qw_s (qw_s (qw_n (qw_0))))))) h))
                · intro s42
                  refine y_iast hX 128 rfl ?_
                  refine y_iconst hX 129 0 rfl (by decide) ?_
                  refine y_istore hX 130 (fun x44 => [some (va_rf this), some (va_rf p1), some (yi s13), some (va_rf x17), some (yi s29), some (yi x44)]) rfl (by decide) (fun _ => rfl) (fun x44 => ?_)
                  refine y_join (S := Unit) 284 (fun s45 => [some (va_rf this), some (va_rf p1), some (yi s13), some (va_rf x17), some (yi s29), none]) (fun s45 => []) ?_ ?_
                  ·
                    refine y_loopw (S := Int) (x44) (fun s46 => [some (va_rf this), some (va_rf p1), some (yi s13), some (va_rf x17), some (yi s29), some (yi s46)]) (qw_s (qw_s (qw_s (qw_s (qw_s (qw_s (qw_0))))))) (fun s46 => ?_)
                    refine y_iload hX 131 rfl rfl ?_
                    refine y_aload_n hX 132 rfl rfl ?_
                    refine y_getNR hX 133 (t := 10) (j := 3) rfl yfl_Flat_53 (by decide) (by decide +kernel) (fun x47 => ?_)
                    refine y_iload_n hX 134 rfl rfl ?_
                    refine y_aald hX 135 (t := 4) (by decide) rfl (fun x48 => ?_)
                    refine y_alen hX 136 rfl (fun x49 => ?_)
                    refine y_icge hX 137 284 rfl (by decide) ?_ ?_
                    ·
                      exact y_exit (fun w h => yj_wk (ρ' := [some (va_rf this), some (va_rf p1), some (yi s13), some (va_rf x17), some (yi s29), none]) (qw_s (qw_s (qw_s (qw_s (qw_s (qw_n (qw_0))))))) h)
                    ·
                      refine y_aload_n hX 138 rfl rfl ?_
                      refine y_getNR hX 139 (t := 10) (j := 3) rfl yfl_Flat_53 (by decide) (by decide +kernel) (fun x50 => ?_)
                      refine y_iload_n hX 140 rfl rfl ?_
                      refine y_aald hX 141 (t := 4) (by decide) rfl (fun x51 => ?_)
                      refine y_iload hX 142 rfl rfl ?_
                      refine y_iald hX 143 rfl (fun x52 => ?_)
                      refine y_iload hX 144 rfl rfl ?_
                      refine y_iconst hX 145 1 rfl (by decide) ?_
                      refine y_iadd hX 146 rfl ?_
                      refine y_join (S := Unit) 278 (fun s53 => [some (va_rf this), some (va_rf p1), some (yi s13), some (va_rf x17), some (yi s29), some (yi s46)]) (fun s53 => []) ?_ ?_
                      ·
                        refine y_icne hX 147 278 rfl (by decide) ?_ ?_
                        ·
                          exact y_exit (fun w h => yj_wk (ρ' := [some (va_rf this), some (va_rf p1), some (yi s13), some (va_rf x17), some (yi s29), some (yi s46)]) (qw_s (qw_s (qw_s (qw_s (qw_s (qw_s (qw_0))))))) h)
                        ·
                          refine y_aload_n hX 148 rfl rfl ?_
                          refine y_getR hX 149 (t := 9) (j := 5) rfl yfl_Flat_22 (by decide) (by decide +kernel) (fun x54 => ?_)
                          refine y_aload_n hX 150 rfl rfl ?_
                          refine y_get hX 151 (t := 9) (j := 9) rfl yfl_Flat_50 (by decide) (by decide +kernel) (fun x55 => ?_)
                          refine y_aload_n hX 152 rfl rfl ?_
                          refine y_getNR hX 153 (t := 10) (j := 3) rfl yfl_Flat_53 (by decide) (by decide +kernel) (fun x56 => ?_)
                          refine y_iload_n hX 154 rfl rfl ?_
                          refine y_aald hX 155 (t := 4) (by decide) rfl (fun x57 => ?_)
                          refine y_iload hX 156 rfl rfl ?_
                          refine y_iconst hX 157 1 rfl (by decide) ?_
                          refine y_iadd hX 158 rfl ?_
                          refine y_iald hX 159 rfl (fun x58 => ?_)
                          refine y_iast hX 160 rfl ?_
                          exact y_exit (fun w h => yj_wk (ρ' := [some (va_rf this), some (va_rf p1), some (yi s13), some (va_rf x17), some (yi s29), some (yi s46)]) (qw_s (qw_s (qw_s (qw_s (qw_s (qw_s (qw_0))))))) h)
                      · intro s53
                        refine y_iinc hX 161 (fun x59 => [some (va_rf this), some (va_rf p1), some (yi s13), some (va_rf x17), some (yi s29), some (yi x59)]) rfl (by decide) rfl (fun _ => rfl) (fun x59 => ?_)
                        exact y_exit (fun w h => yj_goto hX 162 rfl (by decide) (yj_wk (ρ' := [some (va_rf this), some (va_rf p1), some (yi s13), some (va_rf x17), some (yi s29), some (yi x59)]) (qw_s (qw_s (qw_s (qw_s (qw_s (qw_s (qw_0))))))) h))
                  · intro s45
                    refine y_aload_n hX 163 rfl rfl ?_
                    refine y_getR hX 164 (t := 9) (j := 6) rfl yfl_Flat_25 (by decide) (by decide +kernel) (fun x60 => ?_)
                    refine y_aload_n hX 165 rfl rfl ?_
                    refine y_get hX 166 (t := 9) (j := 9) rfl yfl_Flat_50 (by decide) (by decide +kernel) (fun x61 => ?_)
                    refine y_aload_n hX 167 rfl rfl ?_
                    refine y_get hX 168 (t := 9) (j := 10) rfl yfl_Flat_44 (by decide) (by decide +kernel) (fun x62 => ?_)
                    refine y_iconst hX 169 1 rfl (by decide) ?_
                    refine y_isub hX 170 rfl ?_
                    refine y_iast hX 171 rfl ?_
                    refine y_aload_n hX 172 rfl rfl ?_
                    refine y_dup hX 173 rfl (yc_D _) ?_
                    refine y_get hX 174 (t := 9) (j := 9) rfl yfl_Flat_50 (by decide) (by decide +kernel) (fun x63 => ?_)
                    refine y_iconst hX 175 1 rfl (by decide) ?_
                    refine y_iadd hX 176 rfl ?_
                    refine y_putI hX 177 0 (t := 9) (j := 9) rfl yfp_Flat_50 (fun h => absurd h (by decide)) (by decide) (by decide +kernel) ?_
                    refine y_iinc hX 178 (fun x64 => [some (va_rf this), some (va_rf p1), some (yi s13), some (va_rf x17), some (yi x64), none]) rfl (by decide) rfl (fun _ => rfl) (fun x64 => ?_)
                    exact y_exit (fun w h => yj_goto hX 179 rfl (by decide) (yj_wk (ρ' := [some (va_rf this), some (va_rf p1), some (yi s13), some (va_rf x17), some (yi x64), none]) (qw_s (qw_s (qw_s (qw_s (qw_s (qw_n (qw_0))))))) h))
          · intro s28
            refine y_iinc hX 180 (fun x65 => [some (va_rf this), some (va_rf p1), some (yi x65), none, none, none]) rfl (by decide) rfl (fun _ => rfl) (fun x65 => ?_)
            exact y_exit (fun w h => yj_goto hX 181 rfl (by decide) (yj_wk (ρ' := [some (va_rf this), some (va_rf p1), some (yi x65), none, none, none]) (qw_s (qw_s (qw_s (qw_n (qw_n (qw_n (qw_0))))))) h))
    · intro s12
      refine y_aload_n hX 182 rfl rfl ?_
      refine y_getR hX 183 (t := 9) (j := 7) rfl yfl_Flat_28 (by decide) (by decide +kernel) (fun x66 => ?_)
      refine y_aload_n hX 184 rfl rfl ?_
      refine y_get hX 185 (t := 9) (j := 10) rfl yfl_Flat_44 (by decide) (by decide +kernel) (fun x67 => ?_)
      refine y_aload_n hX 186 rfl rfl ?_
      refine y_get hX 187 (t := 9) (j := 9) rfl yfl_Flat_50 (by decide) (by decide +kernel) (fun x68 => ?_)
      refine y_iast hX 188 rfl ?_
      exact y_vret hX 189 rfl hR (fun _ h => And.right h)
theorem km_Flat_init {l : Launch} {G : qm_G} {Y : yY} (hG : yGG G Y) (this : Option Nat) (p1 : Option Nat) : yMM (yQv G Y) l G Y jy_Flat_init prog_11_method_1_code 6 none 1 12 [va_rf this, va_rf p1] (kf_Flat_init Y this p1) :=
  y_met (by decide +kernel) jd_Flat_init (fun v hv => by simp only [List.mem_cons, List.not_mem_nil, or_false] at hv; rcases hv with rfl | rfl <;> first | exact yc_D _ | rfl) (by exact Nat.le_of_ble_eq_true rfl) hG (fun X Fn r0 w0 hl hg hn hX hR => by subst hl; subst hg; exact kb_Flat_init hX hR hn this p1)
