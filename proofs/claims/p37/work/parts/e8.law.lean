def jl_Law_same : List qm_I := [(0, .new 28, 3, 3), (3, .dup, 1, 4), (4, .aload_n 1, 1, 5), (5, .invokespecial 30, 3, 8), (8, .astore_n 2, 1, 9), (9, .aload_n 0, 1, 10), (10, .iconst 0, 1, 11), (11, .invokevirtual 33, 3, 14), (14, .aload_n 1, 1, 15), (15, .getfield 36, 3, 18), (18, .if_icmp .ne 41, 3, 21), (21, .aload_n 0, 1, 22), (22, .iconst 1, 1, 23), (23, .invokevirtual 33, 3, 26), (26, .aload_n 2, 1, 27), (27, .getfield 42, 3, 30), (30, .if_icmp .ne 29, 3, 33), (33, .aload_n 0, 1, 34), (34, .iconst 2, 1, 35), (35, .invokevirtual 33, 3, 38), (38, .aload_n 2, 1, 39), (39, .getfield 45, 3, 42), (42, .if_icmp .ne 17, 3, 45), (45, .aload_n 0, 1, 46), (46, .bipush 18, 2, 48), (48, .invokevirtual 33, 3, 51), (51, .iconst (-1), 1, 52), (52, .if_icmp .ne 7, 3, 55), (55, .iconst 1, 1, 56), (56, .goto 4, 3, 59), (59, .iconst 0, 1, 60), (60, .istore_n 3, 1, 61), (61, .iconst 0, 1, 62), (62, .istore 4, 2, 64), (64, .iconst 0, 1, 65), (65, .istore 5, 2, 67), (67, .iconst 0, 1, 68), (68, .istore 6, 2, 70), (70, .iconst 0, 1, 71), (71, .istore 7, 2, 73), (73, .iload 7, 2, 75), (75, .bipush 8, 2, 77), (77, .if_icmp .ge 38, 3, 80), (80, .iload_n 3, 1, 81), (81, .ifCond .eq 34, 3, 84), (84, .aload_n 0, 1, 85), (85, .bipush 10, 2, 87), (87, .iload 7, 2, 89), (89, .iadd, 1, 90), (90, .invokevirtual 33, 3, 93), (93, .aload_n 1, 1, 94), (94, .getfield 48, 3, 97), (97, .iload 7, 2, 99), (99, .iaload, 1, 100), (100, .if_icmp .ne 7, 3, 103), (103, .iconst 1, 1, 104), (104, .goto 4, 3, 107), (107, .iconst 0, 1, 108), (108, .istore_n 3, 1, 109), (109, .iinc 7 1, 3, 112), (112, .goto (-39), 3, 115), (115, .iconst 0, 1, 116), (116, .istore 7, 2, 118), (118, .iload 7, 2, 120), (120, .aload_n 1, 1, 121), (121, .getfield 36, 3, 124), (124, .if_icmp .ge 201, 3, 127), (127, .iload_n 3, 1, 128), (128, .ifCond .eq 197, 3, 131), (131, .aload_n 1, 1, 132), (132, .getfield 52, 3, 135), (135, .iload 7, 2, 137), (137, .aaload, 1, 138), (138, .astore 8, 2, 140), (140, .aload_n 0, 1, 141), (141, .iload 7, 2, 143), (143, .iconst 0, 1, 144), (144, .invokevirtual 56, 3, 147), (147, .aload 8, 2, 149), (149, .iconst 0, 1, 150), (150, .iaload, 1, 151), (151, .if_icmp .ne 139, 3, 154), (154, .aload_n 0, 1, 155), (155, .iload 7, 2, 157), (157, .iconst 1, 1, 158), (158, .invokevirtual 56, 3, 161), (161, .aload 8, 2, 163), (163, .iconst 1, 1, 164), (164, .iaload, 1, 165), (165, .if_icmp .ne 125, 3, 168), (168, .aload_n 0, 1, 169), (169, .iload 7, 2, 171), (171, .iconst 2, 1, 172), (172, .invokevirtual 56, 3, 175), (175, .iload 4, 2, 177), (177, .if_icmp .ne 113, 3, 180), (180, .aload_n 0, 1, 181), (181, .iload 7, 2, 183), (183, .iconst 3, 1, 184), (184, .invokevirtual 56, 3, 187), (187, .aload 8, 2, 189), (189, .iconst 2, 1, 190), (190, .iaload, 1, 191), (191, .if_icmp .ne 99, 3, 194), (194, .aload_n 0, 1, 195), (195, .iload 7, 2, 197), (197, .iconst 4, 1, 198), (198, .invokevirtual 56, 3, 201), (201, .aload 8, 2, 203), (203, .iconst 3, 1, 204), (204, .iaload, 1, 205), (205, .if_icmp .ne 85, 3, 208), (208, .aload_n 0, 1, 209), (209, .iload 7, 2, 211), (211, .iconst 5, 1, 212), (212, .invokevirtual 56, 3, 215), (215, .aload 8, 2, 217), (217, .iconst 4, 1, 218), (218, .iaload, 1, 219), (219, .if_icmp .ne 71, 3, 222), (222, .aload_n 0, 1, 223), (223, .iload 7, 2, 225), (225, .bipush 6, 2, 227), (227, .invokevirtual 56, 3, 230), (230, .aload 8, 2, 232), (232, .iconst 5, 1, 233), (233, .iaload, 1, 234), (234, .if_icmp .ne 56, 3, 237), (237, .aload_n 0, 1, 238), (238, .iload 7, 2, 240), (240, .bipush 7, 2, 242), (242, .invokevirtual 56, 3, 245), (245, .aload 8, 2, 247), (247, .bipush 6, 2, 249), (249, .iaload, 1, 250), (250, .if_icmp .ne 40, 3, 253), (253, .aload_n 0, 1, 254), (254, .iload 7, 2, 256), (256, .bipush 8, 2, 258), (258, .invokevirtual 56, 3, 261), (261, .aload_n 1, 1, 262), (262, .getfield 59, 3, 265), (265, .iload 7, 2, 267), (267, .aaload, 1, 268), (268, .arraylength, 1, 269), (269, .iconst 2, 1, 270), (270, .idiv, 1, 271), (271, .if_icmp .ne 19, 3, 274), (274, .aload_n 0, 1, 275), (275, .iload 7, 2, 277), (277, .bipush 9, 2, 279), (279, .invokevirtual 56, 3, 282), (282, .iconst (-1), 1, 283), (283, .if_icmp .ne 7, 3, 286), (286, .iconst 1, 1, 287), (287, .goto 4, 3, 290), (290, .iconst 0, 1, 291), (291, .istore_n 3, 1, 292), (292, .iload 4, 2, 294), (294, .aload 8, 2, 296), (296, .iconst 1, 1, 297), (297, .iaload, 1, 298), (298, .iadd, 1, 299), (299, .istore 4, 2, 301), (301, .iload 5, 2, 303), (303, .aload 8, 2, 305), (305, .iconst 0, 1, 306), (306, .iaload, 1, 307), (307, .iconst 4, 1, 308), (308, .if_icmp .ne 7, 3, 311), (311, .iconst 1, 1, 312), (312, .goto 4, 3, 315), (315, .iconst 0, 1, 316), (316, .iadd, 1, 317), (317, .istore 5, 2, 319), (319, .iinc 7 1, 3, 322), (322, .goto (-204), 3, 325), (325, .iconst 0, 1, 326), (326, .istore 7, 2, 328), (328, .iload 7, 2, 330), (330, .aload_n 2, 1, 331), (331, .getfield 42, 3, 334), (334, .if_icmp .ge 187, 3, 337), (337, .iload_n 3, 1, 338), (338, .ifCond .eq 183, 3, 341), (341, .iload 6, 2, 343), (343, .aload_n 2, 1, 344), (344, .getfield 62, 3, 347), (347, .iload 7, 2, 349), (349, .iaload, 1, 350), (350, .ifCond .le 7, 3, 353), (353, .iconst 1, 1, 354), (354, .goto 4, 3, 357), (357, .iconst 0, 1, 358), (358, .iadd, 1, 359), (359, .istore 6, 2, 361), (361, .aload_n 0, 1, 362), (362, .iload 7, 2, 364), (364, .iconst 0, 1, 365), (365, .invokevirtual 65, 3, 368), (368, .aload_n 2, 1, 369), (369, .getfield 68, 3, 372), (372, .iload 7, 2, 374), (374, .iaload, 1, 375), (375, .if_icmp .ne 138, 3, 378), (378, .aload_n 0, 1, 379), (379, .iload 7, 2, 381), (381, .iconst 1, 1, 382), (382, .invokevirtual 65, 3, 385), (385, .aload_n 2, 1, 386), (386, .getfield 70, 3, 389), (389, .iload 7, 2, 391), (391, .iaload, 1, 392), (392, .if_icmp .ne 121, 3, 395), (395, .aload_n 0, 1, 396), (396, .iload 7, 2, 398), (398, .iconst 2, 1, 399), (399, .invokevirtual 65, 3, 402), (402, .aload_n 2, 1, 403), (403, .getfield 73, 3, 406), (406, .iload 7, 2, 408), (408, .iaload, 1, 409), (409, .if_icmp .ne 104, 3, 412), (412, .aload_n 0, 1, 413), (413, .iload 7, 2, 415), (415, .iconst 3, 1, 416), (416, .invokevirtual 65, 3, 419), (419, .aload_n 2, 1, 420), (420, .getfield 76, 3, 423), (423, .iload 7, 2, 425), (425, .iaload, 1, 426), (426, .if_icmp .ne 87, 3, 429), (429, .aload_n 0, 1, 430), (430, .iload 7, 2, 432), (432, .iconst 4, 1, 433), (433, .invokevirtual 65, 3, 436), (436, .aload_n 2, 1, 437), (437, .getfield 62, 3, 440), (440, .iload 7, 2, 442), (442, .iaload, 1, 443), (443, .if_icmp .ne 70, 3, 446), (446, .aload_n 0, 1, 447), (447, .iload 7, 2, 449), (449, .iconst 5, 1, 450), (450, .invokevirtual 65, 3, 453), (453, .aload_n 2, 1, 454), (454, .aload_n 2, 1, 455), (455, .getfield 79, 3, 458), (458, .iload 7, 2, 460), (460, .iaload, 1, 461), (461, .iload 7, 2, 463), (463, .iconst 1, 1, 464), (464, .iadd, 1, 465), (465, .invokevirtual 82, 3, 468), (468, .ifCond .eq 7, 3, 471), (471, .iconst 1, 1, 472), (472, .goto 4, 3, 475), (475, .iconst 0, 1, 476), (476, .if_icmp .ne 37, 3, 479), (479, .aload_n 0, 1, 480), (480, .iload 7, 2, 482), (482, .bipush 6, 2, 484), (484, .invokevirtual 65, 3, 487), (487, .aload_n 2, 1, 488), (488, .getfield 79, 3, 491), (491, .iload 7, 2, 493), (493, .iaload, 1, 494), (494, .if_icmp .ne 19, 3, 497), (497, .aload_n 0, 1, 498), (498, .iload 7, 2, 500), (500, .bipush 7, 2, 502), (502, .invokevirtual 65, 3, 505), (505, .iconst (-1), 1, 506), (506, .if_icmp .ne 7, 3, 509), (509, .iconst 1, 1, 510), (510, .goto 4, 3, 513), (513, .iconst 0, 1, 514), (514, .istore_n 3, 1, 515), (515, .iinc 7 1, 3, 518), (518, .goto (-190), 3, 521), (521, .iconst 0, 1, 522), (522, .istore 7, 2, 524), (524, .iload 7, 2, 526), (526, .aload_n 2, 1, 527), (527, .getfield 45, 3, 530), (530, .if_icmp .ge 178, 3, 533), (533, .iload_n 3, 1, 534), (534, .ifCond .eq 174, 3, 537), (537, .iconst 0, 1, 538), (538, .istore 8, 2, 540), (540, .aload_n 2, 1, 541), (541, .getfield 86, 3, 544), (544, .iload 7, 2, 546), (546, .iaload, 1, 547), (547, .istore 9, 2, 549), (549, .iload 9, 2, 551), (551, .aload_n 2, 1, 552), (552, .getfield 86, 3, 555), (555, .iload 7, 2, 557), (557, .iconst 1, 1, 558), (558, .iadd, 1, 559), (559, .iaload, 1, 560), (560, .if_icmp .gt 30, 3, 563), (563, .iload 8, 2, 565), (565, .aload_n 2, 1, 566), (566, .iload 7, 2, 568), (568, .iload 9, 2, 570), (570, .invokevirtual 82, 3, 573), (573, .ifCond .eq 7, 3, 576), (576, .iconst 1, 1, 577), (577, .goto 4, 3, 580), (580, .iconst 0, 1, 581), (581, .iadd, 1, 582), (582, .istore 8, 2, 584), (584, .iinc 9 1, 3, 587), (587, .goto (-38), 3, 590), (590, .aload_n 0, 1, 591), (591, .iload 7, 2, 593), (593, .iconst 0, 1, 594), (594, .invokevirtual 89, 3, 597), (597, .aload_n 2, 1, 598), (598, .getfield 86, 3, 601), (601, .iload 7, 2, 603), (603, .iaload, 1, 604), (604, .if_icmp .ne 96, 3, 607), (607, .aload_n 0, 1, 608), (608, .iload 7, 2, 610), (610, .iconst 1, 1, 611), (611, .invokevirtual 89, 3, 614), (614, .aload_n 2, 1, 615), (615, .getfield 86, 3, 618), (618, .iload 7, 2, 620), (620, .iconst 1, 1, 621), (621, .iadd, 1, 622), (622, .iaload, 1, 623), (623, .if_icmp .ne 77, 3, 626), (626, .aload_n 0, 1, 627), (627, .iload 7, 2, 629), (629, .iconst 2, 1, 630), (630, .invokevirtual 89, 3, 633), (633, .aload_n 2, 1, 634), (634, .getfield 91, 3, 637), (637, .iload 7, 2, 639), (639, .iaload, 1, 640), (640, .if_icmp .ne 60, 3, 643), (643, .aload_n 0, 1, 644), (644, .iload 7, 2, 646), (646, .iconst 3, 1, 647), (647, .invokevirtual 89, 3, 650), (650, .iload 8, 2, 652), (652, .if_icmp .ne 48, 3, 655), (655, .aload_n 0, 1, 656), (656, .iload 7, 2, 658), (658, .iconst 4, 1, 659), (659, .invokevirtual 89, 3, 662), (662, .aload_n 2, 1, 663), (663, .aload_n 2, 1, 664), (664, .getfield 86, 3, 667), (667, .iload 7, 2, 669), (669, .iaload, 1, 670), (670, .aload_n 2, 1, 671), (671, .getfield 86, 3, 674), (674, .iload 7, 2, 676), (676, .iconst 1, 1, 677), (677, .iadd, 1, 678), (678, .iaload, 1, 679), (679, .invokevirtual 94, 3, 682), (682, .if_icmp .ne 18, 3, 685), (685, .aload_n 0, 1, 686), (686, .iload 7, 2, 688), (688, .iconst 5, 1, 689), (689, .invokevirtual 89, 3, 692), (692, .iconst (-1), 1, 693), (693, .if_icmp .ne 7, 3, 696), (696, .iconst 1, 1, 697), (697, .goto 4, 3, 700), (700, .iconst 0, 1, 701), (701, .istore_n 3, 1, 702), (702, .iinc 7 1, 3, 705), (705, .goto (-181), 3, 708), (708, .iload_n 3, 1, 709), (709, .ifCond .eq 78, 3, 712), (712, .aload_n 0, 1, 713), (713, .iconst 3, 1, 714), (714, .invokevirtual 33, 3, 717), (717, .iload 6, 2, 719), (719, .if_icmp .ne 68, 3, 722), (722, .aload_n 0, 1, 723), (723, .bipush 7, 2, 725), (725, .invokevirtual 33, 3, 728), (728, .iload 5, 2, 730), (730, .if_icmp .ne 57, 3, 733), (733, .aload_n 0, 1, 734), (734, .aload_n 1, 1, 735), (735, .getfield 36, 3, 738), (738, .iconst 0, 1, 739), (739, .invokevirtual 56, 3, 742), (742, .iconst (-1), 1, 743), (743, .if_icmp .ne 44, 3, 746), (746, .aload_n 0, 1, 747), (747, .aload_n 2, 1, 748), (748, .getfield 42, 3, 751), (751, .iconst 0, 1, 752), (752, .invokevirtual 65, 3, 755), (755, .iconst (-1), 1, 756), (756, .if_icmp .ne 31, 3, 759), (759, .aload_n 0, 1, 760), (760, .aload_n 2, 1, 761), (761, .getfield 45, 3, 764), (764, .iconst 0, 1, 765), (765, .invokevirtual 89, 3, 768), (768, .iconst (-1), 1, 769), (769, .if_icmp .ne 18, 3, 772), (772, .aload_n 0, 1, 773), (773, .iconst (-1), 1, 774), (774, .iconst 0, 1, 775), (775, .invokevirtual 97, 3, 778), (778, .iload 6, 2, 780), (780, .if_icmp .ne 7, 3, 783), (783, .iconst 1, 1, 784), (784, .goto 4, 3, 787), (787, .iconst 0, 1, 788), (788, .ireturn, 1, 789)]
theorem jd_Law_same : qm_D method_4_code jl_Law_same := qm_D_of (by decide +kernel)
noncomputable def kf_Law_same (Y : yY) (p2 : Option Nat) : yM Int :=
  yB (yNo 19) fun x1 =>
  yB (yKr 19 x1 (kf_Flat_init Y x1 p2)) fun _ =>
  yB (yP x1) fun x3 =>
  yB (yC ([(0 : Int)] : List Int) (iz_Top_count 0 (0 : Int))) fun x4 =>
  yB (yGt 20 p2 1) fun x5 =>
  yB (α := Int) (
    yB (α := (Unit ⊕ Int)) (
      yB (yR2 x4 x5) fun _ =>
      if ¬ x4 = x5 then
        yP (Sum.inl ())
      else
        yB (yC ([(1 : Int)] : List Int) (iz_Top_count 0 (1 : Int))) fun x8 =>
        yB (yGt 19 x3 9) fun x9 =>
        yB (yR2 x8 x9) fun _ =>
        if ¬ x8 = x9 then
          yP (Sum.inl ())
        else
          yB (yC ([(2 : Int)] : List Int) (iz_Top_count 0 (2 : Int))) fun x10 =>
          yB (yGt 19 x3 10) fun x11 =>
          yB (yR2 x10 x11) fun _ =>
          if ¬ x10 = x11 then
            yP (Sum.inl ())
          else
            yB (yC ([(18 : Int)] : List Int) (iz_Top_count 0 (18 : Int))) fun x12 =>
            yB (yR2 x12 (-1 : Int)) fun _ =>
            if ¬ x12 = (-1 : Int) then
              yP (Sum.inl ())
            else
              yP (Sum.inr (1 : Int))) (Sum.elim (fun s7 =>
      yP (0 : Int)) yP)) fun s6 =>
  yB (yP s6) fun x13 =>
  yB (yP (0 : Int)) fun x14 =>
  yB (yP (0 : Int)) fun x15 =>
  yB (yP (0 : Int)) fun x16 =>
  yB (yP (0 : Int)) fun x17 =>
  yB (α := Int) (
    yLp (S := Int × Int) (α := Int) (fun s19 =>
      yB (yR2 s19.2 (8 : Int)) fun _ =>
      if (8 : Int) ≤ s19.2 then
        yP (Sum.inr s19.1)
      else
        yB (yR s19.1) fun _ =>
        if s19.1 = 0 then
          yP (Sum.inr s19.1)
        else
          yB (yC ([((10 : Int) + s19.2)] : List Int) (iz_Top_count 0 ((10 : Int) + s19.2))) fun x20 =>
          yB (yGr 20 p2 0) fun x21 =>
          yB (yLd 1 x21 s19.2) fun x22 =>
          yB (α := Int) (
            yB (yR2 x20 x22) fun _ =>
            if ¬ x20 = x22 then
              yP (0 : Int)
            else
              yP (1 : Int)) fun s23 =>
          yB (yP s23) fun x24 =>
          yB (yP (s19.2 + 1)) fun x25 =>
          yP (Sum.inl (x24, x25))) (x13, x17)) fun s18 =>
  yB (yP (0 : Int)) fun x26 =>
  yB (α := Int × Int) (
    yLp (S := Int × Int × Int × Int) (α := Int × Int) (fun s28 =>
      yB (yGt 20 p2 1) fun x29 =>
      yB (yR2 s28.2.2.2 x29) fun _ =>
      if x29 ≤ s28.2.2.2 then
        yP (Sum.inr (s28.1, s28.2.2.1))
      else
        yB (yR s28.1) fun _ =>
        if s28.1 = 0 then
          yP (Sum.inr (s28.1, s28.2.2.1))
        else
          yB (yGr 20 p2 2) fun x30 =>
          yB (yLr 4 x30 s28.2.2.2) fun x31 =>
          yB (yP x31) fun x32 =>
          yB (yC ([s28.2.2.2, (0 : Int)] : List Int) (iz_Top_block 0 s28.2.2.2 (0 : Int))) fun x33 =>
          yB (yLd 1 x32 (0 : Int)) fun x34 =>
          yB (α := Int) (
            yB (α := (Unit ⊕ Int)) (
              yB (yR2 x33 x34) fun _ =>
              if ¬ x33 = x34 then
                yP (Sum.inl ())
              else
                yB (yC ([s28.2.2.2, (1 : Int)] : List Int) (iz_Top_block 0 s28.2.2.2 (1 : Int))) fun x37 =>
                yB (yLd 1 x32 (1 : Int)) fun x38 =>
                yB (yR2 x37 x38) fun _ =>
                if ¬ x37 = x38 then
                  yP (Sum.inl ())
                else
                  yB (yC ([s28.2.2.2, (2 : Int)] : List Int) (iz_Top_block 0 s28.2.2.2 (2 : Int))) fun x39 =>
                  yB (yR2 x39 s28.2.1) fun _ =>
                  if ¬ x39 = s28.2.1 then
                    yP (Sum.inl ())
                  else
                    yB (yC ([s28.2.2.2, (3 : Int)] : List Int) (iz_Top_block 0 s28.2.2.2 (3 : Int))) fun x40 =>
                    yB (yLd 1 x32 (2 : Int)) fun x41 =>
                    yB (yR2 x40 x41) fun _ =>
                    if ¬ x40 = x41 then
                      yP (Sum.inl ())
                    else
                      yB (yC ([s28.2.2.2, (4 : Int)] : List Int) (iz_Top_block 0 s28.2.2.2 (4 : Int))) fun x42 =>
                      yB (yLd 1 x32 (3 : Int)) fun x43 =>
                      yB (yR2 x42 x43) fun _ =>
                      if ¬ x42 = x43 then
                        yP (Sum.inl ())
                      else
                        yB (yC ([s28.2.2.2, (5 : Int)] : List Int) (iz_Top_block 0 s28.2.2.2 (5 : Int))) fun x44 =>
                        yB (yLd 1 x32 (4 : Int)) fun x45 =>
                        yB (yR2 x44 x45) fun _ =>
                        if ¬ x44 = x45 then
                          yP (Sum.inl ())
                        else
                          yB (yC ([s28.2.2.2, (6 : Int)] : List Int) (iz_Top_block 0 s28.2.2.2 (6 : Int))) fun x46 =>
                          yB (yLd 1 x32 (5 : Int)) fun x47 =>
                          yB (yR2 x46 x47) fun _ =>
                          if ¬ x46 = x47 then
                            yP (Sum.inl ())
                          else
                            yB (yC ([s28.2.2.2, (7 : Int)] : List Int) (iz_Top_block 0 s28.2.2.2 (7 : Int))) fun x48 =>
                            yB (yLd 1 x32 (6 : Int)) fun x49 =>
                            yB (yR2 x48 x49) fun _ =>
                            if ¬ x48 = x49 then
                              yP (Sum.inl ())
                            else
                              yB (yC ([s28.2.2.2, (8 : Int)] : List Int) (iz_Top_block 0 s28.2.2.2 (8 : Int))) fun x50 =>
                              yB (yGr 20 p2 3) fun x51 =>
                              yB (yLr 4 x51 s28.2.2.2) fun x52 =>
                              yB (yLn x52) fun x53 =>
                              yB (yDv x53 (2 : Int)) fun x54 =>
                              yB (yR2 x50 x54) fun _ =>
                              if ¬ x50 = x54 then
                                yP (Sum.inl ())
                              else
                                yB (yC ([s28.2.2.2, (9 : Int)] : List Int) (iz_Top_block 0 s28.2.2.2 (9 : Int))) fun x55 =>
                                yB (yR2 x55 (-1 : Int)) fun _ =>
                                if ¬ x55 = (-1 : Int) then
                                  yP (Sum.inl ())
                                else
                                  yP (Sum.inr (1 : Int))) (Sum.elim (fun s36 =>
              yP (0 : Int)) yP)) fun s35 =>
          yB (yP s35) fun x56 =>
          yB (yLd 1 x32 (1 : Int)) fun x57 =>
          yB (yP (s28.2.1 + x57)) fun x58 =>
          yB (yLd 1 x32 (0 : Int)) fun x59 =>
          yB (α := Int) (
            yB (yR2 x59 (4 : Int)) fun _ =>
            if ¬ x59 = (4 : Int) then
              yP (0 : Int)
            else
              yP (1 : Int)) fun s60 =>
          yB (yP (s28.2.2.1 + s60)) fun x61 =>
          yB (yP (s28.2.2.2 + 1)) fun x62 =>
          yP (Sum.inl (x56, x58, x61, x62))) (s18, x14, x15, x26)) fun s27 =>
  yB (yP (0 : Int)) fun x63 =>
  yB (α := Int × Int) (
    yLp (S := Int × Int × Int) (α := Int × Int) (fun s65 =>
      yB (yGt 19 x3 9) fun x66 =>
      yB (yR2 s65.2.2 x66) fun _ =>
      if x66 ≤ s65.2.2 then
        yP (Sum.inr (s65.1, s65.2.1))
      else
        yB (yR s65.1) fun _ =>
        if s65.1 = 0 then
          yP (Sum.inr (s65.1, s65.2.1))
        else
          yB (yGr 19 x3 5) fun x67 =>
          yB (yLd 1 x67 s65.2.2) fun x68 =>
          yB (α := Int) (
            yB (yR x68) fun _ =>
            if x68 ≤ 0 then
              yP (0 : Int)
            else
              yP (1 : Int)) fun s69 =>
          yB (yP (s65.2.1 + s69)) fun x70 =>
          yB (yC ([s65.2.2, (0 : Int)] : List Int) (iz_Top_piece 0 s65.2.2 (0 : Int))) fun x71 =>
          yB (yGr 19 x3 1) fun x72 =>
          yB (yLd 1 x72 s65.2.2) fun x73 =>
          yB (α := Int) (
            yB (α := (Unit ⊕ Int)) (
              yB (yR2 x71 x73) fun _ =>
              if ¬ x71 = x73 then
                yP (Sum.inl ())
              else
                yB (yC ([s65.2.2, (1 : Int)] : List Int) (iz_Top_piece 0 s65.2.2 (1 : Int))) fun x76 =>
                yB (yGr 19 x3 2) fun x77 =>
                yB (yLd 1 x77 s65.2.2) fun x78 =>
                yB (yR2 x76 x78) fun _ =>
                if ¬ x76 = x78 then
                  yP (Sum.inl ())
                else
                  yB (yC ([s65.2.2, (2 : Int)] : List Int) (iz_Top_piece 0 s65.2.2 (2 : Int))) fun x79 =>
                  yB (yGr 19 x3 3) fun x80 =>
                  yB (yLd 1 x80 s65.2.2) fun x81 =>
                  yB (yR2 x79 x81) fun _ =>
                  if ¬ x79 = x81 then
                    yP (Sum.inl ())
                  else
                    yB (yC ([s65.2.2, (3 : Int)] : List Int) (iz_Top_piece 0 s65.2.2 (3 : Int))) fun x82 =>
                    yB (yGr 19 x3 4) fun x83 =>
                    yB (yLd 1 x83 s65.2.2) fun x84 =>
                    yB (yR2 x82 x84) fun _ =>
                    if ¬ x82 = x84 then
                      yP (Sum.inl ())
                    else
                      yB (yC ([s65.2.2, (4 : Int)] : List Int) (iz_Top_piece 0 s65.2.2 (4 : Int))) fun x85 =>
                      yB (yGr 19 x3 5) fun x86 =>
                      yB (yLd 1 x86 s65.2.2) fun x87 =>
                      yB (yR2 x85 x87) fun _ =>
                      if ¬ x85 = x87 then
                        yP (Sum.inl ())
                      else
                        yB (yC ([s65.2.2, (5 : Int)] : List Int) (iz_Top_piece 0 s65.2.2 (5 : Int))) fun x88 =>
                        yB (yGr 19 x3 6) fun x89 =>
                        yB (yLd 1 x89 s65.2.2) fun x90 =>
                        yB (yKr 19 x3 (kf_Flat_ends Y x3 x90 (s65.2.2 + (1 : Int)))) fun x91 =>
                        yB (α := Int) (
                          yB (yR x91) fun _ =>
                          if x91 = 0 then
                            yP (0 : Int)
                          else
                            yP (1 : Int)) fun s92 =>
                        yB (yR2 x88 s92) fun _ =>
                        if ¬ x88 = s92 then
                          yP (Sum.inl ())
                        else
                          yB (yC ([s65.2.2, (6 : Int)] : List Int) (iz_Top_piece 0 s65.2.2 (6 : Int))) fun x93 =>
                          yB (yGr 19 x3 6) fun x94 =>
                          yB (yLd 1 x94 s65.2.2) fun x95 =>
                          yB (yR2 x93 x95) fun _ =>
                          if ¬ x93 = x95 then
                            yP (Sum.inl ())
                          else
                            yB (yC ([s65.2.2, (7 : Int)] : List Int) (iz_Top_piece 0 s65.2.2 (7 : Int))) fun x96 =>
                            yB (yR2 x96 (-1 : Int)) fun _ =>
                            if ¬ x96 = (-1 : Int) then
                              yP (Sum.inl ())
                            else
                              yP (Sum.inr (1 : Int))) (Sum.elim (fun s75 =>
              yP (0 : Int)) yP)) fun s74 =>
          yB (yP s74) fun x97 =>
          yB (yP (s65.2.2 + 1)) fun x98 =>
          yP (Sum.inl (x97, x70, x98))) (s27.1, x16, x63)) fun s64 =>
  yB (yP (0 : Int)) fun x99 =>
  yB (α := Int) (
    yLp (S := Int × Int) (α := Int) (fun s101 =>
      yB (yGt 19 x3 10) fun x102 =>
      yB (yR2 s101.2 x102) fun _ =>
      if x102 ≤ s101.2 then
        yP (Sum.inr s101.1)
      else
        yB (yR s101.1) fun _ =>
        if s101.1 = 0 then
          yP (Sum.inr s101.1)
        else
          yB (yP (0 : Int)) fun x103 =>
          yB (yGr 19 x3 7) fun x104 =>
          yB (yLd 1 x104 s101.2) fun x105 =>
          yB (yP x105) fun x106 =>
          yB (α := Int) (
            yLp (S := Int × Int) (α := Int) (fun s108 =>
              yB (yGr 19 x3 7) fun x109 =>
              yB (yLd 1 x109 (s101.2 + (1 : Int))) fun x110 =>
              yB (yR2 s108.2 x110) fun _ =>
              if x110 < s108.2 then
                yP (Sum.inr s108.1)
              else
                yB (yKr 19 x3 (kf_Flat_ends Y x3 s101.2 s108.2)) fun x111 =>
                yB (α := Int) (
                  yB (yR x111) fun _ =>
                  if x111 = 0 then
                    yP (0 : Int)
                  else
                    yP (1 : Int)) fun s112 =>
                yB (yP (s108.1 + s112)) fun x113 =>
                yB (yP (s108.2 + 1)) fun x114 =>
                yP (Sum.inl (x113, x114))) (x103, x106)) fun s107 =>
          yB (yC ([s101.2, (0 : Int)] : List Int) (iz_Top_section 0 s101.2 (0 : Int))) fun x115 =>
          yB (yGr 19 x3 7) fun x116 =>
          yB (yLd 1 x116 s101.2) fun x117 =>
          yB (α := Int) (
            yB (α := (Unit ⊕ Int)) (
              yB (yR2 x115 x117) fun _ =>
              if ¬ x115 = x117 then
                yP (Sum.inl ())
              else
                yB (yC ([s101.2, (1 : Int)] : List Int) (iz_Top_section 0 s101.2 (1 : Int))) fun x120 =>
                yB (yGr 19 x3 7) fun x121 =>
                yB (yLd 1 x121 (s101.2 + (1 : Int))) fun x122 =>
                yB (yR2 x120 x122) fun _ =>
                if ¬ x120 = x122 then
                  yP (Sum.inl ())
                else
                  yB (yC ([s101.2, (2 : Int)] : List Int) (iz_Top_section 0 s101.2 (2 : Int))) fun x123 =>
                  yB (yGr 19 x3 8) fun x124 =>
                  yB (yLd 1 x124 s101.2) fun x125 =>
                  yB (yR2 x123 x125) fun _ =>
                  if ¬ x123 = x125 then
                    yP (Sum.inl ())
                  else
                    yB (yC ([s101.2, (3 : Int)] : List Int) (iz_Top_section 0 s101.2 (3 : Int))) fun x126 =>
                    yB (yR2 x126 s107) fun _ =>
                    if ¬ x126 = s107 then
                      yP (Sum.inl ())
                    else
                      yB (yC ([s101.2, (4 : Int)] : List Int) (iz_Top_section 0 s101.2 (4 : Int))) fun x127 =>
                      yB (yGr 19 x3 7) fun x128 =>
                      yB (yLd 1 x128 s101.2) fun x129 =>
                      yB (yGr 19 x3 7) fun x130 =>
                      yB (yLd 1 x130 (s101.2 + (1 : Int))) fun x131 =>
                      yB (yKr 19 x3 (kf_Flat_own Y x3 x129 x131)) fun x132 =>
                      yB (yR2 x127 x132) fun _ =>
                      if ¬ x127 = x132 then
                        yP (Sum.inl ())
                      else
                        yB (yC ([s101.2, (5 : Int)] : List Int) (iz_Top_section 0 s101.2 (5 : Int))) fun x133 =>
                        yB (yR2 x133 (-1 : Int)) fun _ =>
                        if ¬ x133 = (-1 : Int) then
                          yP (Sum.inl ())
                        else
                          yP (Sum.inr (1 : Int))) (Sum.elim (fun s119 =>
              yP (0 : Int)) yP)) fun s118 =>
          yB (yP s118) fun x134 =>
          yB (yP (s101.2 + 1)) fun x135 =>
          yP (Sum.inl (x134, x135))) (s64.1, x99)) fun s100 =>
  yB (yR s100) fun _ =>
  if s100 = 0 then
    yB (yNw 1 (0 : Int)) fun _ =>
    yP (0 : Int)
  else
    yB (yC ([(3 : Int)] : List Int) (iz_Top_count 0 (3 : Int))) fun x136 =>
    yB (yR2 x136 s64.2) fun _ =>
    if ¬ x136 = s64.2 then
      yB (yNw 1 (0 : Int)) fun _ =>
      yP (0 : Int)
    else
      yB (yC ([(7 : Int)] : List Int) (iz_Top_count 0 (7 : Int))) fun x137 =>
      yB (yR2 x137 s27.2) fun _ =>
      if ¬ x137 = s27.2 then
        yB (yNw 1 (0 : Int)) fun _ =>
        yP (0 : Int)
      else
        yB (yGt 20 p2 1) fun x138 =>
        yB (yC ([x138, (0 : Int)] : List Int) (iz_Top_block 0 x138 (0 : Int))) fun x139 =>
        yB (yR2 x139 (-1 : Int)) fun _ =>
        if ¬ x139 = (-1 : Int) then
          yB (yNw 1 (0 : Int)) fun _ =>
          yP (0 : Int)
        else
          yB (yGt 19 x3 9) fun x140 =>
          yB (yC ([x140, (0 : Int)] : List Int) (iz_Top_piece 0 x140 (0 : Int))) fun x141 =>
          yB (yR2 x141 (-1 : Int)) fun _ =>
          if ¬ x141 = (-1 : Int) then
            yB (yNw 1 (0 : Int)) fun _ =>
            yP (0 : Int)
          else
            yB (yGt 19 x3 10) fun x142 =>
            yB (yC ([x142, (0 : Int)] : List Int) (iz_Top_section 0 x142 (0 : Int))) fun x143 =>
            yB (yR2 x143 (-1 : Int)) fun _ =>
            if ¬ x143 = (-1 : Int) then
              yB (yNw 1 (0 : Int)) fun _ =>
              yP (0 : Int)
            else
              yB (yC ([(-1 : Int), (0 : Int)] : List Int) (iz_Top_note 0 (-1 : Int) (0 : Int))) fun x144 =>
              yB (yR2 x144 s64.2) fun _ =>
              if ¬ x144 = s64.2 then
                yB (yNw 1 (0 : Int)) fun _ =>
                yP (0 : Int)
              else
                yB (yNw 1 (1 : Int)) fun _ =>
                yP (1 : Int)
set_option maxRecDepth 20000 in
set_option maxHeartbeats 4000000 in
theorem kb_Law_same {X : qm_X} {Y : yY} {Fn : yFn} (hX : y_ok X Y Fn "ColumnsLevelledLaw" method_4_code 10 8 199 jl_Law_same) {r0 : Int} {w0 : yW} (hR : y_RI X Y Fn r0 w0 .boolean) (p2 : Option Nat) : yb X Y Fn (kf_Law_same Y p2) 0 [some (.ref (qx_ad X 0)), some (va_rf p2), none, none, none, none, none, none, none, none] [] (fun r w1 => r = r0 ∧ w1 = w0) := by
  unfold kf_Law_same
  refine y_new hX 0 (t := 9) rfl yn_Law_28 (by decide) (fun x1 => ?_)
  refine y_dup hX 1 rfl (yc_D _) ?_
  refine y_aload_n hX 2 rfl rfl ?_
  refine y_calV hX y_gRo (y_hrIo hX 3 (t := 9) (As := [va_rf p2]) (a := x1) rfl ycw_Law_30 (fun p e => by cases e; exact km_Flat_init (yk_G hX) p p2) ⟨rfl, by decide, by decide⟩ rfl (Nat.le_trans (y_cs (yc_D _) y_cn) (by decide))) ?_
  refine y_astore_n hX 4 (fun x3 => [some (.ref (qx_ad X 0)), some (va_rf p2), some (va_rf x3), none, none, none, none, none, none, none]) rfl (by decide) (fun _ => rfl) (fun x3 => ?_)
  refine y_rload_n hX 5 rfl rfl ?_
  refine y_iconst hX 6 0 rfl (by decide) ?_
  refine y_objI (xs := ([(0 : Int)] : List Int)) (m0 := jf_Top_count 0 (Int32.ofInt (0 : Int))) hX 7 (a := 0) (ci := 8) (As := [yi (0 : Int)]) rfl ycv_Law_33 (jm_Top_count (qk_GI hX.1) 0 (Int32.ofInt (0 : Int)) (by decide +kernel)) (fun h => is_Top_count (yi_toInt (h _ (by simp)))) (by decide +kernel) ⟨rfl, rfl, rfl, by decide, by decide⟩ rfl (Nat.le_trans y_cn (by decide)) (fun x4 => ?_)
  refine y_aload_n hX 8 rfl rfl ?_
  refine y_getN hX 9 (t := 10) (j := 1) rfl yfl_Law_36 (by decide) (by decide +kernel) (fun x5 => ?_)
  refine y_join (S := Int) 60 (fun s6 => [some (.ref (qx_ad X 0)), some (va_rf p2), some (va_rf x3), none, none, none, none, none, none, none]) (fun s6 => [yi s6]) ?_ ?_
  ·
    refine y_join2 (S := Unit) 59 (fun s7 => [some (.ref (qx_ad X 0)), some (va_rf p2), some (va_rf x3), none, none, none, none, none, none, none]) (fun s7 => []) ?_ ?_
    ·
      refine y_icne hX 10 59 rfl (by decide) ?_ ?_
      ·
        exact y_exit (fun w h => yj_wk (ρ' := [some (.ref (qx_ad X 0)), some (va_rf p2), some (va_rf x3), none, none, none, none, none, none, none]) (qw_s (qw_s (qw_s (qw_n (qw_n (qw_n (qw_n (qw_n (qw_n (qw_n (qw_0))))))))))) h)
      ·
        refine y_rload_n hX 11 rfl rfl ?_
        refine y_iconst hX 12 1 rfl (by decide) ?_
        refine y_objI (xs := ([(1 : Int)] : List Int)) (m0 := jf_Top_count 0 (Int32.ofInt (1 : Int))) hX 13 (a := 0) (ci := 8) (As := [yi (1 : Int)]) rfl ycv_Law_33 (jm_Top_count (qk_GI hX.1) 0 (Int32.ofInt (1 : Int)) (by decide +kernel)) (fun h => is_Top_count (yi_toInt (h _ (by simp)))) (by decide +kernel) ⟨rfl, rfl, rfl, by decide, by decide⟩ rfl (Nat.le_trans y_cn (by decide)) (fun x8 => ?_)
        refine y_aload_n hX 14 rfl rfl ?_
        refine y_getN hX 15 (t := 9) (j := 9) rfl yfl_Law_42 (by decide) (by decide +kernel) (fun x9 => ?_)
        refine y_icne hX 16 59 rfl (by decide) ?_ ?_
        ·
          exact y_exit (fun w h => yj_wk (ρ' := [some (.ref (qx_ad X 0)), some (va_rf p2), some (va_rf x3), none, none, none, none, none, none, none]) (qw_s (qw_s (qw_s (qw_n (qw_n (qw_n (qw_n (qw_n (qw_n (qw_n (qw_0))))))))))) h)
        ·
          refine y_rload_n hX 17 rfl rfl ?_
          refine y_iconst hX 18 2 rfl (by decide) ?_
          refine y_objI (xs := ([(2 : Int)] : List Int)) (m0 := jf_Top_count 0 (Int32.ofInt (2 : Int))) hX 19 (a := 0) (ci := 8) (As := [yi (2 : Int)]) rfl ycv_Law_33 (jm_Top_count (qk_GI hX.1) 0 (Int32.ofInt (2 : Int)) (by decide +kernel)) (fun h => is_Top_count (yi_toInt (h _ (by simp)))) (by decide +kernel) ⟨rfl, rfl, rfl, by decide, by decide⟩ rfl (Nat.le_trans y_cn (by decide)) (fun x10 => ?_)
          refine y_aload_n hX 20 rfl rfl ?_
          refine y_getN hX 21 (t := 9) (j := 10) rfl yfl_Law_45 (by decide) (by decide +kernel) (fun x11 => ?_)
          refine y_icne hX 22 59 rfl (by decide) ?_ ?_
          ·
            exact y_exit (fun w h => yj_wk (ρ' := [some (.ref (qx_ad X 0)), some (va_rf p2), some (va_rf x3), none, none, none, none, none, none, none]) (qw_s (qw_s (qw_s (qw_n (qw_n (qw_n (qw_n (qw_n (qw_n (qw_n (qw_0))))))))))) h)
          ·
            refine y_rload_n hX 23 rfl rfl ?_
            refine y_bipush hX 24 18 rfl (by decide) ?_
            refine y_objI (xs := ([(18 : Int)] : List Int)) (m0 := jf_Top_count 0 (Int32.ofInt (18 : Int))) hX 25 (a := 0) (ci := 8) (As := [yi (18 : Int)]) rfl ycv_Law_33 (jm_Top_count (qk_GI hX.1) 0 (Int32.ofInt (18 : Int)) (by decide +kernel)) (fun h => is_Top_count (yi_toInt (h _ (by simp)))) (by decide +kernel) ⟨rfl, rfl, rfl, by decide, by decide⟩ rfl (Nat.le_trans y_cn (by decide)) (fun x12 => ?_)
            refine y_iconst hX 26 (-1) rfl (by decide) ?_
            refine y_icne hX 27 59 rfl (by decide) ?_ ?_
            ·
              exact y_exit (fun w h => yj_wk (ρ' := [some (.ref (qx_ad X 0)), some (va_rf p2), some (va_rf x3), none, none, none, none, none, none, none]) (qw_s (qw_s (qw_s (qw_n (qw_n (qw_n (qw_n (qw_n (qw_n (qw_n (qw_0))))))))))) h)
            ·
              refine y_iconst hX 28 1 rfl (by decide) ?_
              exact y_exit (fun w h => yj_goto hX 29 rfl (by decide) (yj_wk (ρ' := [some (.ref (qx_ad X 0)), some (va_rf p2), some (va_rf x3), none, none, none, none, none, none, none]) (qw_s (qw_s (qw_s (qw_n (qw_n (qw_n (qw_n (qw_n (qw_n (qw_n (qw_0))))))))))) h))
    · intro s7
      refine y_iconst hX 30 0 rfl (by decide) ?_
      exact y_exit (fun w h => yj_wk (ρ' := [some (.ref (qx_ad X 0)), some (va_rf p2), some (va_rf x3), none, none, none, none, none, none, none]) (qw_s (qw_s (qw_s (qw_n (qw_n (qw_n (qw_n (qw_n (qw_n (qw_n (qw_0))))))))))) h)
  · intro s6
    refine y_istore_n hX 31 (fun x13 => [some (.ref (qx_ad X 0)), some (va_rf p2), some (va_rf x3), some (yi x13), none, none, none, none, none, none]) rfl (by decide) (fun _ => rfl) (fun x13 => ?_)
    refine y_iconst hX 32 0 rfl (by decide) ?_
    refine y_istore hX 33 (fun x14 => [some (.ref (qx_ad X 0)), some (va_rf p2), some (va_rf x3), some (yi x13), some (yi x14), none, none, none, none, none]) rfl (by decide) (fun _ => rfl) (fun x14 => ?_)
    refine y_iconst hX 34 0 rfl (by decide) ?_
    refine y_istore hX 35 (fun x15 => [some (.ref (qx_ad X 0)), some (va_rf p2), some (va_rf x3), some (yi x13), some (yi x14), some (yi x15), none, none, none, none]) rfl (by decide) (fun _ => rfl) (fun x15 => ?_)
    refine y_iconst hX 36 0 rfl (by decide) ?_
    refine y_istore hX 37 (fun x16 => [some (.ref (qx_ad X 0)), some (va_rf p2), some (va_rf x3), some (yi x13), some (yi x14), some (yi x15), some (yi x16), none, none, none]) rfl (by decide) (fun _ => rfl) (fun x16 => ?_)
    refine y_iconst hX 38 0 rfl (by decide) ?_
    refine y_istore hX 39 (fun x17 => [some (.ref (qx_ad X 0)), some (va_rf p2), some (va_rf x3), some (yi x13), some (yi x14), some (yi x15), some (yi x16), some (yi x17), none, none]) rfl (by decide) (fun _ => rfl) (fun x17 => ?_)
    refine y_join (S := Int) 115 (fun s18 => [some (.ref (qx_ad X 0)), some (va_rf p2), some (va_rf x3), some (yi s18), some (yi x14), some (yi x15), some (yi x16), none, none, none]) (fun s18 => []) ?_ ?_
    ·
      refine y_loopw (S := Int × Int) ((x13, x17)) (fun s19 => [some (.ref (qx_ad X 0)), some (va_rf p2), some (va_rf x3), some (yi s19.1), some (yi x14), some (yi x15), some (yi x16), some (yi s19.2), none, none]) (qw_s (qw_s (qw_s (qw_s (qw_s (qw_s (qw_s (qw_s (qw_n (qw_n (qw_0))))))))))) (fun s19 => ?_)
      refine y_iload hX 40 rfl rfl ?_
      refine y_bipush hX 41 8 rfl (by decide) ?_
      refine y_icge hX 42 115 rfl (by decide) ?_ ?_
      ·
        exact y_exit (fun w h => yj_wk (ρ' := [some (.ref (qx_ad X 0)), some (va_rf p2), some (va_rf x3), some (yi s19.1), some (yi x14), some (yi x15), some (yi x16), none, none, none]) (qw_s (qw_s (qw_s (qw_s (qw_s (qw_s (qw_s (qw_n (qw_n (qw_n (qw_0))))))))))) h)
      ·
        refine y_iload_n hX 43 rfl rfl ?_
        refine y_ifeq hX 44 115 rfl (by decide) ?_ ?_
        ·
          exact y_exit (fun w h => yj_wk (ρ' := [some (.ref (qx_ad X 0)), some (va_rf p2), some (va_rf x3), some (yi s19.1), some (yi x14), some (yi x15), some (yi x16), none, none, none]) (qw_s (qw_s (qw_s (qw_s (qw_s (qw_s (qw_s (qw_n (qw_n (qw_n (qw_0))))))))))) h)
        ·
          refine y_rload_n hX 45 rfl rfl ?_
          refine y_bipush hX 46 10 rfl (by decide) ?_
          refine y_iload hX 47 rfl rfl ?_
          refine y_iadd hX 48 rfl ?_
          refine y_objI (xs := ([((10 : Int) + s19.2)] : List Int)) (m0 := jf_Top_count 0 (Int32.ofInt ((10 : Int) + s19.2))) hX 49 (a := 0) (ci := 8) (As := [yi ((10 : Int) + s19.2)]) rfl ycv_Law_33 (jm_Top_count (qk_GI hX.1) 0 (Int32.ofInt ((10 : Int) + s19.2)) (by decide +kernel)) (fun h => is_Top_count (yi_toInt (h _ (by simp)))) (by decide +kernel) ⟨rfl, rfl, rfl, by decide, by decide⟩ rfl (Nat.le_trans y_cn (by decide)) (fun x20 => ?_)
          refine y_aload_n hX 50 rfl rfl ?_
          refine y_getNR hX 51 (t := 10) (j := 0) rfl yfl_Law_48 (by decide) (by decide +kernel) (fun x21 => ?_)
          refine y_iload hX 52 rfl rfl ?_
          refine y_iald hX 53 rfl (fun x22 => ?_)
          refine y_join (S := Int) 108 (fun s23 => [some (.ref (qx_ad X 0)), some (va_rf p2), some (va_rf x3), none, some (yi x14), some (yi x15), some (yi x16), some (yi s19.2), none, none]) (fun s23 => [yi s23]) ?_ ?_
          ·
            refine y_icne hX 54 107 rfl (by decide) ?_ ?_
            ·
              refine y_iconst hX 57 0 rfl (by decide) ?_
              exact y_exit (fun w h => yj_wk (ρ' := [some (.ref (qx_ad X 0)), some (va_rf p2), some (va_rf x3), none, some (yi x14), some (yi x15), some (yi x16), some (yi s19.2), none, none]) (qw_s (qw_s (qw_s (qw_n (qw_s (qw_s (qw_s (qw_s (qw_n (qw_n (qw_0))))))))))) h)
            ·
              refine y_iconst hX 55 1 rfl (by decide) ?_
              exact y_exit (fun w h => yj_goto hX 56 rfl (by decide) (yj_wk (ρ' := [some (.ref (qx_ad X 0)), some (va_rf p2), some (va_rf x3), none, some (yi x14), some (yi x15), some (yi x16), some (yi s19.2), none, none]) (qw_s (qw_s (qw_s (qw_n (qw_s (qw_s (qw_s (qw_s (qw_n (qw_n (qw_0))))))))))) h))
          · intro s23
            refine y_istore_n hX 58 (fun x24 => [some (.ref (qx_ad X 0)), some (va_rf p2), some (va_rf x3), some (yi x24), some (yi x14), some (yi x15), some (yi x16), some (yi s19.2), none, none]) rfl (by decide) (fun _ => rfl) (fun x24 => ?_)
            refine y_iinc hX 59 (fun x25 => [some (.ref (qx_ad X 0)), some (va_rf p2), some (va_rf x3), some (yi x24), some (yi x14), some (yi x15), some (yi x16), some (yi x25), none, none]) rfl (by decide) rfl (fun _ => rfl) (fun x25 => ?_)
            exact y_exit (fun w h => yj_goto hX 60 rfl (by decide) (yj_wk (ρ' := [some (.ref (qx_ad X 0)), some (va_rf p2), some (va_rf x3), some (yi x24), some (yi x14), some (yi x15), some (yi x16), some (yi x25), none, none]) (qw_s (qw_s (qw_s (qw_s (qw_s (qw_s (qw_s (qw_s (qw_n (qw_n (qw_0))))))))))) h))
    · intro s18
      refine y_iconst hX 61 0 rfl (by decide) ?_
      refine y_istore hX 62 (fun x26 => [some (.ref (qx_ad X 0)), some (va_rf p2), some (va_rf x3), some (yi s18), some (yi x14), some (yi x15), some (yi x16), some (yi x26), none, none]) rfl (by decide) (fun _ => rfl) (fun x26 => ?_)
      refine y_join (S := Int × Int) 325 (fun s27 => [some (.ref (qx_ad X 0)), some (va_rf p2), some (va_rf x3), some (yi s27.1), none, some (yi s27.2), some (yi x16), none, none, none]) (fun s27 => []) ?_ ?_
      ·
        refine y_loopw (S := Int × Int × Int × Int) ((s18, x14, x15, x26)) (fun s28 => [some (.ref (qx_ad X 0)), some (va_rf p2), some (va_rf x3), some (yi s28.1), some (yi s28.2.1), some (yi s28.2.2.1), some (yi x16), some (yi s28.2.2.2), none, none]) (qw_s (qw_s (qw_s (qw_s (qw_s (qw_s (qw_s (qw_s (qw_n (qw_n (qw_0))))))))))) (fun s28 => ?_)
        refine y_iload hX 63 rfl rfl ?_
        refine y_aload_n hX 64 rfl rfl ?_
        refine y_getN hX 65 (t := 10) (j := 1) rfl yfl_Law_36 (by decide) (by decide +kernel) (fun x29 => ?_)
        refine y_icge hX 66 325 rfl (by decide) ?_ ?_
        ·
          exact y_exit (fun w h => yj_wk (ρ' := [some (.ref (qx_ad X 0)), some (va_rf p2), some (va_rf x3), some (yi s28.1), none, some (yi s28.2.2.1), some (yi x16), none, none, none]) (qw_s (qw_s (qw_s (qw_s (qw_n (qw_s (qw_s (qw_n (qw_n (qw_n (qw_0))))))))))) h)
        ·
          refine y_iload_n hX 67 rfl rfl ?_
          refine y_ifeq hX 68 325 rfl (by decide) ?_ ?_
          ·
            exact y_exit (fun w h => yj_wk (ρ' := [some (.ref (qx_ad X 0)), some (va_rf p2), some (va_rf x3), some (yi s28.1), none, some (yi s28.2.2.1), some (yi x16), none, none, none]) (qw_s (qw_s (qw_s (qw_s (qw_n (qw_s (qw_s (qw_n (qw_n (qw_n (qw_0))))))))))) h)
          ·
            refine y_aload_n hX 69 rfl rfl ?_
            refine y_getNR hX 70 (t := 10) (j := 2) rfl yfl_Law_52 (by decide) (by decide +kernel) (fun x30 => ?_)
            refine y_iload hX 71 rfl rfl ?_
            refine y_aald hX 72 (t := 4) (by decide) rfl (fun x31 => ?_)
            refine y_astore hX 73 (fun x32 => [some (.ref (qx_ad X 0)), some (va_rf p2), some (va_rf x3), some (yi s28.1), some (yi s28.2.1), some (yi s28.2.2.1), some (yi x16), some (yi s28.2.2.2), some (va_rf x32), none]) rfl (by decide) (fun _ => rfl) (fun x32 => ?_)
            refine y_rload_n hX 74 rfl rfl ?_
            refine y_iload hX 75 rfl rfl ?_
            refine y_iconst hX 76 0 rfl (by decide) ?_
            refine y_objI (xs := ([s28.2.2.2, (0 : Int)] : List Int)) (m0 := jf_Top_block 0 (Int32.ofInt s28.2.2.2) (Int32.ofInt (0 : Int))) hX 77 (a := 0) (ci := 8) (As := [yi s28.2.2.2, yi (0 : Int)]) rfl ycv_Law_56 (jm_Top_block (qk_GI hX.1) 0 (Int32.ofInt s28.2.2.2) (Int32.ofInt (0 : Int)) (by decide +kernel)) (fun h => is_Top_block (yi_toInt (h _ (by simp))) (yi_toInt (h _ (by simp)))) (by decide +kernel) ⟨rfl, rfl, rfl, by decide, by decide⟩ rfl (Nat.le_trans y_cn (by decide)) (fun x33 => ?_)
            refine y_aload hX 78 rfl rfl ?_
            refine y_iconst hX 79 0 rfl (by decide) ?_
            refine y_iald hX 80 rfl (fun x34 => ?_)
            refine y_join (S := Int) 291 (fun s35 => [some (.ref (qx_ad X 0)), some (va_rf p2), some (va_rf x3), none, some (yi s28.2.1), some (yi s28.2.2.1), some (yi x16), some (yi s28.2.2.2), some (va_rf x32), none]) (fun s35 => [yi s35]) ?_ ?_
            ·
              refine y_join2 (S := Unit) 290 (fun s36 => [some (.ref (qx_ad X 0)), some (va_rf p2), some (va_rf x3), none, some (yi s28.2.1), some (yi s28.2.2.1), some (yi x16), some (yi s28.2.2.2), some (va_rf x32), none]) (fun s36 => []) ?_ ?_
              ·
                refine y_icne hX 81 290 rfl (by decide) ?_ ?_
                ·
                  exact y_exit (fun w h => yj_wk (ρ' := [some (.ref (qx_ad X 0)), some (va_rf p2), some (va_rf x3), none, some (yi s28.2.1), some (yi s28.2.2.1), some (yi x16), some (yi s28.2.2.2), some (va_rf x32), none]) (qw_s (qw_s (qw_s (qw_n (qw_s (qw_s (qw_s (qw_s (qw_s (qw_n (qw_0))))))))))) h)
                ·
                  refine y_rload_n hX 82 rfl rfl ?_
                  refine y_iload hX 83 rfl rfl ?_
                  refine y_iconst hX 84 1 rfl (by decide) ?_
                  refine y_objI (xs := ([s28.2.2.2, (1 : Int)] : List Int)) (m0 := jf_Top_block 0 (Int32.ofInt s28.2.2.2) (Int32.ofInt (1 : Int))) hX 85 (a := 0) (ci := 8) (As := [yi s28.2.2.2, yi (1 : Int)]) rfl ycv_Law_56 (jm_Top_block (qk_GI hX.1) 0 (Int32.ofInt s28.2.2.2) (Int32.ofInt (1 : Int)) (by decide +kernel)) (fun h => is_Top_block (yi_toInt (h _ (by simp))) (yi_toInt (h _ (by simp)))) (by decide +kernel) ⟨rfl, rfl, rfl, by decide, by decide⟩ rfl (Nat.le_trans y_cn (by decide)) (fun x37 => ?_)
                  refine y_aload hX 86 rfl rfl ?_
                  refine y_iconst hX 87 1 rfl (by decide) ?_
                  refine y_iald hX 88 rfl (fun x38 => ?_)
                  refine y_icne hX 89 290 rfl (by decide) ?_ ?_
                  ·
                    exact y_exit (fun w h => yj_wk (ρ' := [some (.ref (qx_ad X 0)), some (va_rf p2), some (va_rf x3), none, some (yi s28.2.1), some (yi s28.2.2.1), some (yi x16), some (yi s28.2.2.2), some (va_rf x32), none]) (qw_s (qw_s (qw_s (qw_n (qw_s (qw_s (qw_s (qw_s (qw_s (qw_n (qw_0))))))))))) h)
                  ·
                    refine y_rload_n hX 90 rfl rfl ?_
                    refine y_iload hX 91 rfl rfl ?_
                    refine y_iconst hX 92 2 rfl (by decide) ?_
                    refine y_objI (xs := ([s28.2.2.2, (2 : Int)] : List Int)) (m0 := jf_Top_block 0 (Int32.ofInt s28.2.2.2) (Int32.ofInt (2 : Int))) hX 93 (a := 0) (ci := 8) (As := [yi s28.2.2.2, yi (2 : Int)]) rfl ycv_Law_56 (jm_Top_block (qk_GI hX.1) 0 (Int32.ofInt s28.2.2.2) (Int32.ofInt (2 : Int)) (by decide +kernel)) (fun h => is_Top_block (yi_toInt (h _ (by simp))) (yi_toInt (h _ (by simp)))) (by decide +kernel) ⟨rfl, rfl, rfl, by decide, by decide⟩ rfl (Nat.le_trans y_cn (by decide)) (fun x39 => ?_)
                    refine y_iload hX 94 rfl rfl ?_
                    refine y_icne hX 95 290 rfl (by decide) ?_ ?_
                    ·
                      exact y_exit (fun w h => yj_wk (ρ' := [some (.ref (qx_ad X 0)), some (va_rf p2), some (va_rf x3), none, some (yi s28.2.1), some (yi s28.2.2.1), some (yi x16), some (yi s28.2.2.2), some (va_rf x32), none]) (qw_s (qw_s (qw_s (qw_n (qw_s (qw_s (qw_s (qw_s (qw_s (qw_n (qw_0))))))))))) h)
                    ·
                      refine y_rload_n hX 96 rfl rfl ?_
                      refine y_iload hX 97 rfl rfl ?_
                      refine y_iconst hX 98 3 rfl (by decide) ?_
                      refine y_objI (xs := ([s28.2.2.2, (3 : Int)] : List Int)) (m0 := jf_Top_block 0 (Int32.ofInt s28.2.2.2) (Int32.ofInt (3 : Int))) hX 99 (a := 0) (ci := 8) (As := [yi s28.2.2.2, yi (3 : Int)]) rfl ycv_Law_56 (jm_Top_block (qk_GI hX.1) 0 (Int32.ofInt s28.2.2.2) (Int32.ofInt (3 : Int)) (by decide +kernel)) (fun h => is_Top_block (yi_toInt (h _ (by simp))) (yi_toInt (h _ (by simp)))) (by decide +kernel) ⟨rfl, rfl, rfl, by decide, by decide⟩ rfl (Nat.le_trans y_cn (by decide)) (fun x40 => ?_)
                      refine y_aload hX 100 rfl rfl ?_
                      refine y_iconst hX 101 2 rfl (by decide) ?_
                      refine y_iald hX 102 rfl (fun x41 => ?_)
                      refine y_icne hX 103 290 rfl (by decide) ?_ ?_
                      ·
                        exact y_exit (fun w h => yj_wk (ρ' := [some (.ref (qx_ad X 0)), some (va_rf p2), some (va_rf x3), none, some (yi s28.2.1), some (yi s28.2.2.1), some (yi x16), some (yi s28.2.2.2), some (va_rf x32), none]) (qw_s (qw_s (qw_s (qw_n (qw_s (qw_s (qw_s (qw_s (qw_s (qw_n (qw_0))))))))))) h)
                      ·
                        refine y_rload_n hX 104 rfl rfl ?_
                        refine y_iload hX 105 rfl rfl ?_
                        refine y_iconst hX 106 4 rfl (by decide) ?_
                        refine y_objI (xs := ([s28.2.2.2, (4 : Int)] : List Int)) (m0 := jf_Top_block 0 (Int32.ofInt s28.2.2.2) (Int32.ofInt (4 : Int))) hX 107 (a := 0) (ci := 8) (As := [yi s28.2.2.2, yi (4 : Int)]) rfl ycv_Law_56 (jm_Top_block (qk_GI hX.1) 0 (Int32.ofInt s28.2.2.2) (Int32.ofInt (4 : Int)) (by decide +kernel)) (fun h => is_Top_block (yi_toInt (h _ (by simp))) (yi_toInt (h _ (by simp)))) (by decide +kernel) ⟨rfl, rfl, rfl, by decide, by decide⟩ rfl (Nat.le_trans y_cn (by decide)) (fun x42 => ?_)
                        refine y_aload hX 108 rfl rfl ?_
                        refine y_iconst hX 109 3 rfl (by decide) ?_
                        refine y_iald hX 110 rfl (fun x43 => ?_)
                        refine y_icne hX 111 290 rfl (by decide) ?_ ?_
                        ·
                          exact y_exit (fun w h => yj_wk (ρ' := [some (.ref (qx_ad X 0)), some (va_rf p2), some (va_rf x3), none, some (yi s28.2.1), some (yi s28.2.2.1), some (yi x16), some (yi s28.2.2.2), some (va_rf x32), none]) (qw_s (qw_s (qw_s (qw_n (qw_s (qw_s (qw_s (qw_s (qw_s (qw_n (qw_0))))))))))) h)
                        ·
                          refine y_rload_n hX 112 rfl rfl ?_
                          refine y_iload hX 113 rfl rfl ?_
                          refine y_iconst hX 114 5 rfl (by decide) ?_
                          refine y_objI (xs := ([s28.2.2.2, (5 : Int)] : List Int)) (m0 := jf_Top_block 0 (Int32.ofInt s28.2.2.2) (Int32.ofInt (5 : Int))) hX 115 (a := 0) (ci := 8) (As := [yi s28.2.2.2, yi (5 : Int)]) rfl ycv_Law_56 (jm_Top_block (qk_GI hX.1) 0 (Int32.ofInt s28.2.2.2) (Int32.ofInt (5 : Int)) (by decide +kernel)) (fun h => is_Top_block (yi_toInt (h _ (by simp))) (yi_toInt (h _ (by simp)))) (by decide +kernel) ⟨rfl, rfl, rfl, by decide, by decide⟩ rfl (Nat.le_trans y_cn (by decide)) (fun x44 => ?_)
                          refine y_aload hX 116 rfl rfl ?_
                          refine y_iconst hX 117 4 rfl (by decide) ?_
                          refine y_iald hX 118 rfl (fun x45 => ?_)
                          refine y_icne hX 119 290 rfl (by decide) ?_ ?_
                          ·
                            exact y_exit (fun w h => yj_wk (ρ' := [some (.ref (qx_ad X 0)), some (va_rf p2), some (va_rf x3), none, some (yi s28.2.1), some (yi s28.2.2.1), some (yi x16), some (yi s28.2.2.2), some (va_rf x32), none]) (qw_s (qw_s (qw_s (qw_n (qw_s (qw_s (qw_s (qw_s (qw_s (qw_n (qw_0))))))))))) h)
                          ·
                            refine y_rload_n hX 120 rfl rfl ?_
                            refine y_iload hX 121 rfl rfl ?_
                            refine y_bipush hX 122 6 rfl (by decide) ?_
                            refine y_objI (xs := ([s28.2.2.2, (6 : Int)] : List Int)) (m0 := jf_Top_block 0 (Int32.ofInt s28.2.2.2) (Int32.ofInt (6 : Int))) hX 123 (a := 0) (ci := 8) (As := [yi s28.2.2.2, yi (6 : Int)]) rfl ycv_Law_56 (jm_Top_block (qk_GI hX.1) 0 (Int32.ofInt s28.2.2.2) (Int32.ofInt (6 : Int)) (by decide +kernel)) (fun h => is_Top_block (yi_toInt (h _ (by simp))) (yi_toInt (h _ (by simp)))) (by decide +kernel) ⟨rfl, rfl, rfl, by decide, by decide⟩ rfl (Nat.le_trans y_cn (by decide)) (fun x46 => ?_)
                            refine y_aload hX 124 rfl rfl ?_
                            refine y_iconst hX 125 5 rfl (by decide) ?_
                            refine y_iald hX 126 rfl (fun x47 => ?_)
                            refine y_icne hX 127 290 rfl (by decide) ?_ ?_
                            ·
                              exact y_exit (fun w h => yj_wk (ρ' := [some (.ref (qx_ad X 0)), some (va_rf p2), some (va_rf x3), none, some (yi s28.2.1), some (yi s28.2.2.1), some (yi x16), some (yi s28.2.2.2), some (va_rf x32), none]) (qw_s (qw_s (qw_s (qw_n (qw_s (qw_s (qw_s (qw_s (qw_s (qw_n (qw_0))))))))))) h)
                            ·
                              refine y_rload_n hX 128 rfl rfl ?_
                              refine y_iload hX 129 rfl rfl ?_
                              refine y_bipush hX 130 7 rfl (by decide) ?_
                              refine y_objI (xs := ([s28.2.2.2, (7 : Int)] : List Int)) (m0 := jf_Top_block 0 (Int32.ofInt s28.2.2.2) (Int32.ofInt (7 : Int))) hX 131 (a := 0) (ci := 8) (As := [yi s28.2.2.2, yi (7 : Int)]) rfl ycv_Law_56 (jm_Top_block (qk_GI hX.1) 0 (Int32.ofInt s28.2.2.2) (Int32.ofInt (7 : Int)) (by decide +kernel)) (fun h => is_Top_block (yi_toInt (h _ (by simp))) (yi_toInt (h _ (by simp)))) (by decide +kernel) ⟨rfl, rfl, rfl, by decide, by decide⟩ rfl (Nat.le_trans y_cn (by decide)) (fun x48 => ?_)
                              refine y_aload hX 132 rfl rfl ?_
                              refine y_bipush hX 133 6 rfl (by decide) ?_
                              refine y_iald hX 134 rfl (fun x49 => ?_)
                              refine y_icne hX 135 290 rfl (by decide) ?_ ?_
                              ·
                                exact y_exit (fun w h => yj_wk (ρ' := [some (.ref (qx_ad X 0)), some (va_rf p2), some (va_rf x3), none, some (yi s28.2.1), some (yi s28.2.2.1), some (yi x16), some (yi s28.2.2.2), some (va_rf x32), none]) (qw_s (qw_s (qw_s (qw_n (qw_s (qw_s (qw_s (qw_s (qw_s (qw_n (qw_0))))))))))) h)
                              ·
                                refine y_rload_n hX 136 rfl rfl ?_
                                refine y_iload hX 137 rfl rfl ?_
                                refine y_bipush hX 138 8 rfl (by decide) ?_
                                refine y_objI (xs := ([s28.2.2.2, (8 : Int)] : List Int)) (m0 := jf_Top_block 0 (Int32.ofInt s28.2.2.2) (Int32.ofInt (8 : Int))) hX 139 (a := 0) (ci := 8) (As := [yi s28.2.2.2, yi (8 : Int)]) rfl ycv_Law_56 (jm_Top_block (qk_GI hX.1) 0 (Int32.ofInt s28.2.2.2) (Int32.ofInt (8 : Int)) (by decide +kernel)) (fun h => is_Top_block (yi_toInt (h _ (by simp))) (yi_toInt (h _ (by simp)))) (by decide +kernel) ⟨rfl, rfl, rfl, by decide, by decide⟩ rfl (Nat.le_trans y_cn (by decide)) (fun x50 => ?_)
                                refine y_aload_n hX 140 rfl rfl ?_
                                refine y_getNR hX 141 (t := 10) (j := 3) rfl yfl_Law_59 (by decide) (by decide +kernel) (fun x51 => ?_)
                                refine y_iload hX 142 rfl rfl ?_
                                refine y_aald hX 143 (t := 4) (by decide) rfl (fun x52 => ?_)
                                refine y_alen hX 144 rfl (fun x53 => ?_)
                                refine y_iconst hX 145 2 rfl (by decide) ?_
                                refine y_idiv hX 146 rfl (fun x54 => ?_)
                                refine y_icne hX 147 290 rfl (by decide) ?_ ?_
                                ·
                                  exact y_exit (fun w h => yj_wk (ρ' := [some (.ref (qx_ad X 0)), some (va_rf p2), some (va_rf x3), none, some (yi s28.2.1), some (yi s28.2.2.1), some (yi x16), some (yi s28.2.2.2), some (va_rf x32), none]) (qw_s (qw_s (qw_s (qw_n (qw_s (qw_s (qw_s (qw_s (qw_s (qw_n (qw_0))))))))))) h)
                                ·
                                  refine y_rload_n hX 148 rfl rfl ?_
                                  refine y_iload hX 149 rfl rfl ?_
                                  refine y_bipush hX 150 9 rfl (by decide) ?_
                                  refine y_objI (xs := ([s28.2.2.2, (9 : Int)] : List Int)) (m0 := jf_Top_block 0 (Int32.ofInt s28.2.2.2) (Int32.ofInt (9 : Int))) hX 151 (a := 0) (ci := 8) (As := [yi s28.2.2.2, yi (9 : Int)]) rfl ycv_Law_56 (jm_Top_block (qk_GI hX.1) 0 (Int32.ofInt s28.2.2.2) (Int32.ofInt (9 : Int)) (by decide +kernel)) (fun h => is_Top_block (yi_toInt (h _ (by simp))) (yi_toInt (h _ (by simp)))) (by decide +kernel) ⟨rfl, rfl, rfl, by decide, by decide⟩ rfl (Nat.le_trans y_cn (by decide)) (fun x55 => ?_)
                                  refine y_iconst hX 152 (-1) rfl (by decide) ?_
                                  refine y_icne hX 153 290 rfl (by decide) ?_ ?_
                                  ·
                                    exact y_exit (fun w h => yj_wk (ρ' := [some (.ref (qx_ad X 0)), some (va_rf p2), some (va_rf x3), none, some (yi s28.2.1), some (yi s28.2.2.1), some (yi x16), some (yi s28.2.2.2), some (va_rf x32), none]) (qw_s (qw_s (qw_s (qw_n (qw_s (qw_s (qw_s (qw_s (qw_s (qw_n (qw_0))))))))))) h)
                                  ·
                                    refine y_iconst hX 154 1 rfl (by decide) ?_
                                    exact y_exit (fun w h => yj_goto hX 155 rfl (by decide) (yj_wk (ρ' := [some (.ref (qx_ad X 0)), some (va_rf p2), some (va_rf x3), none, some (yi s28.2.1), some (yi s28.2.2.1), some (yi x16), some (yi s28.2.2.2), some (va_rf x32), none]) (qw_s (qw_s (qw_s (qw_n (qw_s (qw_s (qw_s (qw_s (qw_s (qw_n (qw_0))))))))))) h))
              · intro s36
                refine y_iconst hX 156 0 rfl (by decide) ?_
                exact y_exit (fun w h => yj_wk (ρ' := [some (.ref (qx_ad X 0)), some (va_rf p2), some (va_rf x3), none, some (yi s28.2.1), some (yi s28.2.2.1), some (yi x16), some (yi s28.2.2.2), some (va_rf x32), none]) (qw_s (qw_s (qw_s (qw_n (qw_s (qw_s (qw_s (qw_s (qw_s (qw_n (qw_0))))))))))) h)
            · intro s35
              refine y_istore_n hX 157 (fun x56 => [some (.ref (qx_ad X 0)), some (va_rf p2), some (va_rf x3), some (yi x56), some (yi s28.2.1), some (yi s28.2.2.1), some (yi x16), some (yi s28.2.2.2), some (va_rf x32), none]) rfl (by decide) (fun _ => rfl) (fun x56 => ?_)
              refine y_iload hX 158 rfl rfl ?_
              refine y_aload hX 159 rfl rfl ?_
              refine y_iconst hX 160 1 rfl (by decide) ?_
              refine y_iald hX 161 rfl (fun x57 => ?_)
              refine y_iadd hX 162 rfl ?_
              refine y_istore hX 163 (fun x58 => [some (.ref (qx_ad X 0)), some (va_rf p2), some (va_rf x3), some (yi x56), some (yi x58), some (yi s28.2.2.1), some (yi x16), some (yi s28.2.2.2), some (va_rf x32), none]) rfl (by decide) (fun _ => rfl) (fun x58 => ?_)
              refine y_iload hX 164 rfl rfl ?_
              refine y_aload hX 165 rfl rfl ?_
              refine y_iconst hX 166 0 rfl (by decide) ?_
              refine y_iald hX 167 rfl (fun x59 => ?_)
              refine y_iconst hX 168 4 rfl (by decide) ?_
              refine y_join (S := Int) 316 (fun s60 => [some (.ref (qx_ad X 0)), some (va_rf p2), some (va_rf x3), some (yi x56), some (yi x58), none, some (yi x16), some (yi s28.2.2.2), none, none]) (fun s60 => [yi s60, yi s28.2.2.1]) ?_ ?_
              ·
                refine y_icne hX 169 315 rfl (by decide) ?_ ?_
                ·
                  refine y_iconst hX 172 0 rfl (by decide) ?_
                  exact y_exit (fun w h => yj_wk (ρ' := [some (.ref (qx_ad X 0)), some (va_rf p2), some (va_rf x3), some (yi x56), some (yi x58), none, some (yi x16), some (yi s28.2.2.2), none, none]) (qw_s (qw_s (qw_s (qw_s (qw_s (qw_n (qw_s (qw_s (qw_n (qw_n (qw_0))))))))))) h)
                ·
                  refine y_iconst hX 170 1 rfl (by decide) ?_
                  exact y_exit (fun w h => yj_goto hX 171 rfl (by decide) (yj_wk (ρ' := [some (.ref (qx_ad X 0)), some (va_rf p2), some (va_rf x3), some (yi x56), some (yi x58), none, some (yi x16), some (yi s28.2.2.2), none, none]) (qw_s (qw_s (qw_s (qw_s (qw_s (qw_n (qw_s (qw_s (qw_n (qw_n (qw_0))))))))))) h))
              · intro s60
                refine y_iadd hX 173 rfl ?_
                refine y_istore hX 174 (fun x61 => [some (.ref (qx_ad X 0)), some (va_rf p2), some (va_rf x3), some (yi x56), some (yi x58), some (yi x61), some (yi x16), some (yi s28.2.2.2), none, none]) rfl (by decide) (fun _ => rfl) (fun x61 => ?_)
                refine y_iinc hX 175 (fun x62 => [some (.ref (qx_ad X 0)), some (va_rf p2), some (va_rf x3), some (yi x56), some (yi x58), some (yi x61), some (yi x16), some (yi x62), none, none]) rfl (by decide) rfl (fun _ => rfl) (fun x62 => ?_)
                exact y_exit (fun w h => yj_goto hX 176 rfl (by decide) (yj_wk (ρ' := [some (.ref (qx_ad X 0)), some (va_rf p2), some (va_rf x3), some (yi x56), some (yi x58), some (yi x61), some (yi x16), some (yi x62), none, none]) (qw_s (qw_s (qw_s (qw_s (qw_s (qw_s (qw_s (qw_s (qw_n (qw_n (qw_0))))))))))) h))
      · intro s27
        refine y_iconst hX 177 0 rfl (by decide) ?_
        refine y_istore hX 178 (fun x63 => [some (.ref (qx_ad X 0)), some (va_rf p2), some (va_rf x3), some (yi s27.1), none, some (yi s27.2), some (yi x16), some (yi x63), none, none]) rfl (by decide) (fun _ => rfl) (fun x63 => ?_)
        refine y_join (S := Int × Int) 521 (fun s64 => [some (.ref (qx_ad X 0)), some (va_rf p2), some (va_rf x3), some (yi s64.1), none, some (yi s27.2), some (yi s64.2), none, none, none]) (fun s64 => []) ?_ ?_
        ·
          refine y_loopw (S := Int × Int × Int) ((s27.1, x16, x63)) (fun s65 => [some (.ref (qx_ad X 0)), some (va_rf p2), some (va_rf x3), some (yi s65.1), none, some (yi s27.2), some (yi s65.2.1), some (yi s65.2.2), none, none]) (qw_s (qw_s (qw_s (qw_s (qw_n (qw_s (qw_s (qw_s (qw_n (qw_n (qw_0))))))))))) (fun s65 => ?_)
          refine y_iload hX 179 rfl rfl ?_
          refine y_aload_n hX 180 rfl rfl ?_
          refine y_getN hX 181 (t := 9) (j := 9) rfl yfl_Law_42 (by decide) (by decide +kernel) (fun x66 => ?_)
          refine y_icge hX 182 521 rfl (by decide) ?_ ?_
          ·
            exact y_exit (fun w h => yj_wk (ρ' := [some (.ref (qx_ad X 0)), some (va_rf p2), some (va_rf x3), some (yi s65.1), none, some (yi s27.2), some (yi s65.2.1), none, none, none]) (qw_s (qw_s (qw_s (qw_s (qw_n (qw_s (qw_s (qw_n (qw_n (qw_n (qw_0))))))))))) h)
          ·
            refine y_iload_n hX 183 rfl rfl ?_
            refine y_ifeq hX 184 521 rfl (by decide) ?_ ?_
            ·
              exact y_exit (fun w h => yj_wk (ρ' := [some (.ref (qx_ad X 0)), some (va_rf p2), some (va_rf x3), some (yi s65.1), none, some (yi s27.2), some (yi s65.2.1), none, none, none]) (qw_s (qw_s (qw_s (qw_s (qw_n (qw_s (qw_s (qw_n (qw_n (qw_n (qw_0))))))))))) h)
            ·
              refine y_iload hX 185 rfl rfl ?_
              refine y_aload_n hX 186 rfl rfl ?_
              refine y_getNR hX 187 (t := 9) (j := 5) rfl yfl_Law_62 (by decide) (by decide +kernel) (fun x67 => ?_)
              refine y_iload hX 188 rfl rfl ?_
              refine y_iald hX 189 rfl (fun x68 => ?_)
              refine y_join (S := Int) 358 (fun s69 => [some (.ref (qx_ad X 0)), some (va_rf p2), some (va_rf x3), none, none, some (yi s27.2), none, some (yi s65.2.2), none, none]) (fun s69 => [yi s69, yi s65.2.1]) ?_ ?_
              ·
                refine y_ifle hX 190 357 rfl (by decide) ?_ ?_
                ·
                  refine y_iconst hX 193 0 rfl (by decide) ?_
                  exact y_exit (fun w h => yj_wk (ρ' := [some (.ref (qx_ad X 0)), some (va_rf p2), some (va_rf x3), none, none, some (yi s27.2), none, some (yi s65.2.2), none, none]) (qw_s (qw_s (qw_s (qw_n (qw_n (qw_s (qw_n (qw_s (qw_n (qw_n (qw_0))))))))))) h)
                ·
                  refine y_iconst hX 191 1 rfl (by decide) ?_
                  exact y_exit (fun w h => yj_goto hX 192 rfl (by decide) (yj_wk (ρ' := [some (.ref (qx_ad X 0)), some (va_rf p2), some (va_rf x3), none, none, some (yi s27.2), none, some (yi s65.2.2), none, none]) (qw_s (qw_s (qw_s (qw_n (qw_n (qw_s (qw_n (qw_s (qw_n (qw_n (qw_0))))))))))) h))
              · intro s69
                refine y_iadd hX 194 rfl ?_
                refine y_istore hX 195 (fun x70 => [some (.ref (qx_ad X 0)), some (va_rf p2), some (va_rf x3), none, none, some (yi s27.2), some (yi x70), some (yi s65.2.2), none, none]) rfl (by decide) (fun _ => rfl) (fun x70 => ?_)
                refine y_rload_n hX 196 rfl rfl ?_
                refine y_iload hX 197 rfl rfl ?_
                refine y_iconst hX 198 0 rfl (by decide) ?_
                refine y_objI (xs := ([s65.2.2, (0 : Int)] : List Int)) (m0 := jf_Top_piece 0 (Int32.ofInt s65.2.2) (Int32.ofInt (0 : Int))) hX 199 (a := 0) (ci := 8) (As := [yi s65.2.2, yi (0 : Int)]) rfl ycv_Law_65 (jm_Top_piece (qk_GI hX.1) 0 (Int32.ofInt s65.2.2) (Int32.ofInt (0 : Int)) (by decide +kernel)) (fun h => is_Top_piece (yi_toInt (h _ (by simp))) (yi_toInt (h _ (by simp)))) (by decide +kernel) ⟨rfl, rfl, rfl, by decide, by decide⟩ rfl (Nat.le_trans y_cn (by decide)) (fun x71 => ?_)
                refine y_aload_n hX 200 rfl rfl ?_
                refine y_getNR hX 201 (t := 9) (j := 1) rfl yfl_Law_68 (by decide) (by decide +kernel) (fun x72 => ?_)
                refine y_iload hX 202 rfl rfl ?_
                refine y_iald hX 203 rfl (fun x73 => ?_)
                refine y_join (S := Int) 514 (fun s74 => [some (.ref (qx_ad X 0)), some (va_rf p2), some (va_rf x3), none, none, some (yi s27.2), some (yi x70), some (yi s65.2.2), none, none]) (fun s74 => [yi s74]) ?_ ?_
                ·
                  refine y_join2 (S := Unit) 513 (fun s75 => [some (.ref (qx_ad X 0)), some (va_rf p2), some (va_rf x3), none, none, some (yi s27.2), some (yi x70), some (yi s65.2.2), none, none]) (fun s75 => []) ?_ ?_
                  ·
                    refine y_icne hX 204 513 rfl (by decide) ?_ ?_
                    ·
                      exact y_exit (fun w h => yj_wk (ρ' := [some (.ref (qx_ad X 0)), some (va_rf p2), some (va_rf x3), none, none, some (yi s27.2), some (yi x70), some (yi s65.2.2), none, none]) (qw_s (qw_s (qw_s (qw_n (qw_n (qw_s (qw_s (qw_s (qw_n (qw_n (qw_0))))))))))) h)
                    ·
                      refine y_rload_n hX 205 rfl rfl ?_
                      refine y_iload hX 206 rfl rfl ?_
                      refine y_iconst hX 207 1 rfl (by decide) ?_
                      refine y_objI (xs := ([s65.2.2, (1 : Int)] : List Int)) (m0 := jf_Top_piece 0 (Int32.ofInt s65.2.2) (Int32.ofInt (1 : Int))) hX 208 (a := 0) (ci := 8) (As := [yi s65.2.2, yi (1 : Int)]) rfl ycv_Law_65 (jm_Top_piece (qk_GI hX.1) 0 (Int32.ofInt s65.2.2) (Int32.ofInt (1 : Int)) (by decide +kernel)) (fun h => is_Top_piece (yi_toInt (h _ (by simp))) (yi_toInt (h _ (by simp)))) (by decide +kernel) ⟨rfl, rfl, rfl, by decide, by decide⟩ rfl (Nat.le_trans y_cn (by decide)) (fun x76 => ?_)
                      refine y_aload_n hX 209 rfl rfl ?_
                      refine y_getNR hX 210 (t := 9) (j := 2) rfl yfl_Law_70 (by decide) (by decide +kernel) (fun x77 => ?_)
                      refine y_iload hX 211 rfl rfl ?_
                      refine y_iald hX 212 rfl (fun x78 => ?_)
                      refine y_icne hX 213 513 rfl (by decide) ?_ ?_
                      ·
                        exact y_exit (fun w h => yj_wk (ρ' := [some (.ref (qx_ad X 0)), some (va_rf p2), some (va_rf x3), none, none, some (yi s27.2), some (yi x70), some (yi s65.2.2), none, none]) (qw_s (qw_s (qw_s (qw_n (qw_n (qw_s (qw_s (qw_s (qw_n (qw_n (qw_0))))))))))) h)
                      ·
                        refine y_rload_n hX 214 rfl rfl ?_
                        refine y_iload hX 215 rfl rfl ?_
                        refine y_iconst hX 216 2 rfl (by decide) ?_
                        refine y_objI (xs := ([s65.2.2, (2 : Int)] : List Int)) (m0 := jf_Top_piece 0 (Int32.ofInt s65.2.2) (Int32.ofInt (2 : Int))) hX 217 (a := 0) (ci := 8) (As := [yi s65.2.2, yi (2 : Int)]) rfl ycv_Law_65 (jm_Top_piece (qk_GI hX.1) 0 (Int32.ofInt s65.2.2) (Int32.ofInt (2 : Int)) (by decide +kernel)) (fun h => is_Top_piece (yi_toInt (h _ (by simp))) (yi_toInt (h _ (by simp)))) (by decide +kernel) ⟨rfl, rfl, rfl, by decide, by decide⟩ rfl (Nat.le_trans y_cn (by decide)) (fun x79 => ?_)
                        refine y_aload_n hX 218 rfl rfl ?_
                        refine y_getNR hX 219 (t := 9) (j := 3) rfl yfl_Law_73 (by decide) (by decide +kernel) (fun x80 => ?_)
                        refine y_iload hX 220 rfl rfl ?_
                        refine y_iald hX 221 rfl (fun x81 => ?_)
                        refine y_icne hX 222 513 rfl (by decide) ?_ ?_
                        ·
                          exact y_exit (fun w h => yj_wk (ρ' := [some (.ref (qx_ad X 0)), some (va_rf p2), some (va_rf x3), none, none, some (yi s27.2), some (yi x70), some (yi s65.2.2), none, none]) (qw_s (qw_s (qw_s (qw_n (qw_n (qw_s (qw_s (qw_s (qw_n (qw_n (qw_0))))))))))) h)
                        ·
                          refine y_rload_n hX 223 rfl rfl ?_
                          refine y_iload hX 224 rfl rfl ?_
                          refine y_iconst hX 225 3 rfl (by decide) ?_
                          refine y_objI (xs := ([s65.2.2, (3 : Int)] : List Int)) (m0 := jf_Top_piece 0 (Int32.ofInt s65.2.2) (Int32.ofInt (3 : Int))) hX 226 (a := 0) (ci := 8) (As := [yi s65.2.2, yi (3 : Int)]) rfl ycv_Law_65 (jm_Top_piece (qk_GI hX.1) 0 (Int32.ofInt s65.2.2) (Int32.ofInt (3 : Int)) (by decide +kernel)) (fun h => is_Top_piece (yi_toInt (h _ (by simp))) (yi_toInt (h _ (by simp)))) (by decide +kernel) ⟨rfl, rfl, rfl, by decide, by decide⟩ rfl (Nat.le_trans y_cn (by decide)) (fun x82 => ?_)
                          refine y_aload_n hX 227 rfl rfl ?_
                          refine y_getNR hX 228 (t := 9) (j := 4) rfl yfl_Law_76 (by decide) (by decide +kernel) (fun x83 => ?_)
                          refine y_iload hX 229 rfl rfl ?_
                          refine y_iald hX 230 rfl (fun x84 => ?_)
                          refine y_icne hX 231 513 rfl (by decide) ?_ ?_
                          ·
                            exact y_exit (fun w h => yj_wk (ρ' := [some (.ref (qx_ad X 0)), some (va_rf p2), some (va_rf x3), none, none, some (yi s27.2), some (yi x70), some (yi s65.2.2), none, none]) (qw_s (qw_s (qw_s (qw_n (qw_n (qw_s (qw_s (qw_s (qw_n (qw_n (qw_0))))))))))) h)
                          ·
                            refine y_rload_n hX 232 rfl rfl ?_
                            refine y_iload hX 233 rfl rfl ?_
                            refine y_iconst hX 234 4 rfl (by decide) ?_
                            refine y_objI (xs := ([s65.2.2, (4 : Int)] : List Int)) (m0 := jf_Top_piece 0 (Int32.ofInt s65.2.2) (Int32.ofInt (4 : Int))) hX 235 (a := 0) (ci := 8) (As := [yi s65.2.2, yi (4 : Int)]) rfl ycv_Law_65 (jm_Top_piece (qk_GI hX.1) 0 (Int32.ofInt s65.2.2) (Int32.ofInt (4 : Int)) (by decide +kernel)) (fun h => is_Top_piece (yi_toInt (h _ (by simp))) (yi_toInt (h _ (by simp)))) (by decide +kernel) ⟨rfl, rfl, rfl, by decide, by decide⟩ rfl (Nat.le_trans y_cn (by decide)) (fun x85 => ?_)
                            refine y_aload_n hX 236 rfl rfl ?_
                            refine y_getNR hX 237 (t := 9) (j := 5) rfl yfl_Law_62 (by decide) (by decide +kernel) (fun x86 => ?_)
                            refine y_iload hX 238 rfl rfl ?_
                            refine y_iald hX 239 rfl (fun x87 => ?_)
                            refine y_icne hX 240 513 rfl (by decide) ?_ ?_
                            ·
                              exact y_exit (fun w h => yj_wk (ρ' := [some (.ref (qx_ad X 0)), some (va_rf p2), some (va_rf x3), none, none, some (yi s27.2), some (yi x70), some (yi s65.2.2), none, none]) (qw_s (qw_s (qw_s (qw_n (qw_n (qw_s (qw_s (qw_s (qw_n (qw_n (qw_0))))))))))) h)
                            ·
                              refine y_rload_n hX 241 rfl rfl ?_
                              refine y_iload hX 242 rfl rfl ?_
                              refine y_iconst hX 243 5 rfl (by decide) ?_
                              refine y_objI (xs := ([s65.2.2, (5 : Int)] : List Int)) (m0 := jf_Top_piece 0 (Int32.ofInt s65.2.2) (Int32.ofInt (5 : Int))) hX 244 (a := 0) (ci := 8) (As := [yi s65.2.2, yi (5 : Int)]) rfl ycv_Law_65 (jm_Top_piece (qk_GI hX.1) 0 (Int32.ofInt s65.2.2) (Int32.ofInt (5 : Int)) (by decide +kernel)) (fun h => is_Top_piece (yi_toInt (h _ (by simp))) (yi_toInt (h _ (by simp)))) (by decide +kernel) ⟨rfl, rfl, rfl, by decide, by decide⟩ rfl (Nat.le_trans y_cn (by decide)) (fun x88 => ?_)
                              refine y_aload_n hX 245 rfl rfl ?_
                              refine y_aload_n hX 246 rfl rfl ?_
                              refine y_getNR hX 247 (t := 9) (j := 6) rfl yfl_Law_79 (by decide) (by decide +kernel) (fun x89 => ?_)
                              refine y_iload hX 248 rfl rfl ?_
                              refine y_iald hX 249 rfl (fun x90 => ?_)
                              refine y_iload hX 250 rfl rfl ?_
                              refine y_iconst hX 251 1 rfl (by decide) ?_
                              refine y_iadd hX 252 rfl ?_
                              refine y_calI hX y_gRo (y_hrVo hX 253 (t := 9) (As := [yi x90, yi (s65.2.2 + (1 : Int))]) (a := x3) rfl ycw_Law_82 (fun p e => by cases e; exact km_Flat_ends (yk_G hX) p x90 (s65.2.2 + (1 : Int))) (by decide) ⟨rfl, rfl, rfl, by decide, by decide⟩ rfl (Nat.le_trans (y_cs (yc_I _) y_cn) (by decide))) (fun x91 => ?_)
                              refine y_join (S := Int) 476 (fun s92 => [some (.ref (qx_ad X 0)), some (va_rf p2), some (va_rf x3), none, none, some (yi s27.2), some (yi x70), some (yi s65.2.2), none, none]) (fun s92 => [yi s92, yi x88]) ?_ ?_
                              ·
                                refine y_ifeq hX 254 475 rfl (by decide) ?_ ?_
                                ·
                                  refine y_iconst hX 257 0 rfl (by decide) ?_
                                  exact y_exit (fun w h => yj_wk (ρ' := [some (.ref (qx_ad X 0)), some (va_rf p2), some (va_rf x3), none, none, some (yi s27.2), some (yi x70), some (yi s65.2.2), none, none]) (qw_s (qw_s (qw_s (qw_n (qw_n (qw_s (qw_s (qw_s (qw_n (qw_n (qw_0))))))))))) h)
                                ·
                                  refine y_iconst hX 255 1 rfl (by decide) ?_
                                  exact y_exit (fun w h => yj_goto hX 256 rfl (by decide) (yj_wk (ρ' := [some (.ref (qx_ad X 0)), some (va_rf p2), some (va_rf x3), none, none, some (yi s27.2), some (yi x70), some (yi s65.2.2), none, none]) (qw_s (qw_s (qw_s (qw_n (qw_n (qw_s (qw_s (qw_s (qw_n (qw_n (qw_0))))))))))) h))
                              · intro s92
                                refine y_icne hX 258 513 rfl (by decide) ?_ ?_
                                ·
                                  exact y_exit (fun w h => yj_wk (ρ' := [some (.ref (qx_ad X 0)), some (va_rf p2), some (va_rf x3), none, none, some (yi s27.2), some (yi x70), some (yi s65.2.2), none, none]) (qw_s (qw_s (qw_s (qw_n (qw_n (qw_s (qw_s (qw_s (qw_n (qw_n (qw_0))))))))))) h)
                                ·
                                  refine y_rload_n hX 259 rfl rfl ?_
                                  refine y_iload hX 260 rfl rfl ?_
                                  refine y_bipush hX 261 6 rfl (by decide) ?_
                                  refine y_objI (xs := ([s65.2.2, (6 : Int)] : List Int)) (m0 := jf_Top_piece 0 (Int32.ofInt s65.2.2) (Int32.ofInt (6 : Int))) hX 262 (a := 0) (ci := 8) (As := [yi s65.2.2, yi (6 : Int)]) rfl ycv_Law_65 (jm_Top_piece (qk_GI hX.1) 0 (Int32.ofInt s65.2.2) (Int32.ofInt (6 : Int)) (by decide +kernel)) (fun h => is_Top_piece (yi_toInt (h _ (by simp))) (yi_toInt (h _ (by simp)))) (by decide +kernel) ⟨rfl, rfl, rfl, by decide, by decide⟩ rfl (Nat.le_trans y_cn (by decide)) (fun x93 => ?_)
                                  refine y_aload_n hX 263 rfl rfl ?_
                                  refine y_getNR hX 264 (t := 9) (j := 6) rfl yfl_Law_79 (by decide) (by decide +kernel) (fun x94 => ?_)
                                  refine y_iload hX 265 rfl rfl ?_
                                  refine y_iald hX 266 rfl (fun x95 => ?_)
                                  refine y_icne hX 267 513 rfl (by decide) ?_ ?_
                                  ·
                                    exact y_exit (fun w h => yj_wk (ρ' := [some (.ref (qx_ad X 0)), some (va_rf p2), some (va_rf x3), none, none, some (yi s27.2), some (yi x70), some (yi s65.2.2), none, none]) (qw_s (qw_s (qw_s (qw_n (qw_n (qw_s (qw_s (qw_s (qw_n (qw_n (qw_0))))))))))) h)
                                  ·
                                    refine y_rload_n hX 268 rfl rfl ?_
                                    refine y_iload hX 269 rfl rfl ?_
                                    refine y_bipush hX 270 7 rfl (by decide) ?_
                                    refine y_objI (xs := ([s65.2.2, (7 : Int)] : List Int)) (m0 := jf_Top_piece 0 (Int32.ofInt s65.2.2) (Int32.ofInt (7 : Int))) hX 271 (a := 0) (ci := 8) (As := [yi s65.2.2, yi (7 : Int)]) rfl ycv_Law_65 (jm_Top_piece (qk_GI hX.1) 0 (Int32.ofInt s65.2.2) (Int32.ofInt (7 : Int)) (by decide +kernel)) (fun h => is_Top_piece (yi_toInt (h _ (by simp))) (yi_toInt (h _ (by simp)))) (by decide +kernel) ⟨rfl, rfl, rfl, by decide, by decide⟩ rfl (Nat.le_trans y_cn (by decide)) (fun x96 => ?_)
                                    refine y_iconst hX 272 (-1) rfl (by decide) ?_
                                    refine y_icne hX 273 513 rfl (by decide) ?_ ?_
                                    ·
                                      exact y_exit (fun w h => yj_wk (ρ' := [some (.ref (qx_ad X 0)), some (va_rf p2), some (va_rf x3), none, none, some (yi s27.2), some (yi x70), some (yi s65.2.2), none, none]) (qw_s (qw_s (qw_s (qw_n (qw_n (qw_s (qw_s (qw_s (qw_n (qw_n (qw_0))))))))))) h)
                                    ·
                                      refine y_iconst hX 274 1 rfl (by decide) ?_
                                      exact y_exit (fun w h => yj_goto hX 275 rfl (by decide) (yj_wk (ρ' := [some (.ref (qx_ad X 0)), some (va_rf p2), some (va_rf x3), none, none, some (yi s27.2), some (yi x70), some (yi s65.2.2), none, none]) (qw_s (qw_s (qw_s (qw_n (qw_n (qw_s (qw_s (qw_s (qw_n (qw_n (qw_0))))))))))) h))
                  · intro s75
                    refine y_iconst hX 276 0 rfl (by decide) ?_
                    exact y_exit (fun w h => yj_wk (ρ' := [some (.ref (qx_ad X 0)), some (va_rf p2), some (va_rf x3), none, none, some (yi s27.2), some (yi x70), some (yi s65.2.2), none, none]) (qw_s (qw_s (qw_s (qw_n (qw_n (qw_s (qw_s (qw_s (qw_n (qw_n (qw_0))))))))))) h)
                · intro s74
                  refine y_istore_n hX 277 (fun x97 => [some (.ref (qx_ad X 0)), some (va_rf p2), some (va_rf x3), some (yi x97), none, some (yi s27.2), some (yi x70), some (yi s65.2.2), none, none]) rfl (by decide) (fun _ => rfl) (fun x97 => ?_)
                  refine y_iinc hX 278 (fun x98 => [some (.ref (qx_ad X 0)), some (va_rf p2), some (va_rf x3), some (yi x97), none, some (yi s27.2), some (yi x70), some (yi x98), none, none]) rfl (by decide) rfl (fun _ => rfl) (fun x98 => ?_)
                  exact y_exit (fun w h => yj_goto hX 279 rfl (by decide) (yj_wk (ρ' := [some (.ref (qx_ad X 0)), some (va_rf p2), some (va_rf x3), some (yi x97), none, some (yi s27.2), some (yi x70), some (yi x98), none, none]) (qw_s (qw_s (qw_s (qw_s (qw_n (qw_s (qw_s (qw_s (qw_n (qw_n (qw_0))))))))))) h))
        · intro s64
          refine y_iconst hX 280 0 rfl (by decide) ?_
          refine y_istore hX 281 (fun x99 => [some (.ref (qx_ad X 0)), some (va_rf p2), some (va_rf x3), some (yi s64.1), none, some (yi s27.2), some (yi s64.2), some (yi x99), none, none]) rfl (by decide) (fun _ => rfl) (fun x99 => ?_)
          refine y_join (S := Int) 708 (fun s100 => [some (.ref (qx_ad X 0)), some (va_rf p2), some (va_rf x3), some (yi s100), none, some (yi s27.2), some (yi s64.2), none, none, none]) (fun s100 => []) ?_ ?_
          ·
            refine y_loopw (S := Int × Int) ((s64.1, x99)) (fun s101 => [some (.ref (qx_ad X 0)), some (va_rf p2), some (va_rf x3), some (yi s101.1), none, some (yi s27.2), some (yi s64.2), some (yi s101.2), none, none]) (qw_s (qw_s (qw_s (qw_s (qw_n (qw_s (qw_s (qw_s (qw_n (qw_n (qw_0))))))))))) (fun s101 => ?_)
            refine y_iload hX 282 rfl rfl ?_
            refine y_aload_n hX 283 rfl rfl ?_
            refine y_getN hX 284 (t := 9) (j := 10) rfl yfl_Law_45 (by decide) (by decide +kernel) (fun x102 => ?_)
            refine y_icge hX 285 708 rfl (by decide) ?_ ?_
            ·
              exact y_exit (fun w h => yj_wk (ρ' := [some (.ref (qx_ad X 0)), some (va_rf p2), some (va_rf x3), some (yi s101.1), none, some (yi s27.2), some (yi s64.2), none, none, none]) (qw_s (qw_s (qw_s (qw_s (qw_n (qw_s (qw_s (qw_n (qw_n (qw_n (qw_0))))))))))) h)
            ·
              refine y_iload_n hX 286 rfl rfl ?_
              refine y_ifeq hX 287 708 rfl (by decide) ?_ ?_
              ·
                exact y_exit (fun w h => yj_wk (ρ' := [some (.ref (qx_ad X 0)), some (va_rf p2), some (va_rf x3), some (yi s101.1), none, some (yi s27.2), some (yi s64.2), none, none, none]) (qw_s (qw_s (qw_s (qw_s (qw_n (qw_s (qw_s (qw_n (qw_n (qw_n (qw_0))))))))))) h)
              ·
                refine y_iconst hX 288 0 rfl (by decide) ?_
                refine y_istore hX 289 (fun x103 => [some (.ref (qx_ad X 0)), some (va_rf p2), some (va_rf x3), some (yi s101.1), none, some (yi s27.2), some (yi s64.2), some (yi s101.2), some (yi x103), none]) rfl (by decide) (fun _ => rfl) (fun x103 => ?_)
                refine y_aload_n hX 290 rfl rfl ?_
                refine y_getNR hX 291 (t := 9) (j := 7) rfl yfl_Law_86 (by decide) (by decide +kernel) (fun x104 => ?_)
                refine y_iload hX 292 rfl rfl ?_
                refine y_iald hX 293 rfl (fun x105 => ?_)
                refine y_istore hX 294 (fun x106 => [some (.ref (qx_ad X 0)), some (va_rf p2), some (va_rf x3), some (yi s101.1), none, some (yi s27.2), some (yi s64.2), some (yi s101.2), some (yi x103), some (yi x106)]) rfl (by decide) (fun _ => rfl) (fun x106 => ?_)
                refine y_join (S := Int) 590 (fun s107 => [some (.ref (qx_ad X 0)), some (va_rf p2), some (va_rf x3), none, none, some (yi s27.2), some (yi s64.2), some (yi s101.2), some (yi s107), none]) (fun s107 => []) ?_ ?_
                ·
                  refine y_loopw (S := Int × Int) ((x103, x106)) (fun s108 => [some (.ref (qx_ad X 0)), some (va_rf p2), some (va_rf x3), none, none, some (yi s27.2), some (yi s64.2), some (yi s101.2), some (yi s108.1), some (yi s108.2)]) (qw_s (qw_s (qw_s (qw_n (qw_n (qw_s (qw_s (qw_s (qw_s (qw_s (qw_0))))))))))) (fun s108 => ?_)
                  refine y_iload hX 295 rfl rfl ?_
                  refine y_aload_n hX 296 rfl rfl ?_
                  refine y_getNR hX 297 (t := 9) (j := 7) rfl yfl_Law_86 (by decide) (by decide +kernel) (fun x109 => ?_)
                  refine y_iload hX 298 rfl rfl ?_
                  refine y_iconst hX 299 1 rfl (by decide) ?_
                  refine y_iadd hX 300 rfl ?_
                  refine y_iald hX 301 rfl (fun x110 => ?_)
                  refine y_icgt hX 302 590 rfl (by decide) ?_ ?_
                  ·
                    exact y_exit (fun w h => yj_wk (ρ' := [some (.ref (qx_ad X 0)), some (va_rf p2), some (va_rf x3), none, none, some (yi s27.2), some (yi s64.2), some (yi s101.2), some (yi s108.1), none]) (qw_s (qw_s (qw_s (qw_n (qw_n (qw_s (qw_s (qw_s (qw_s (qw_n (qw_0))))))))))) h)
                  ·
                    refine y_iload hX 303 rfl rfl ?_
                    refine y_aload_n hX 304 rfl rfl ?_
                    refine y_iload hX 305 rfl rfl ?_
                    refine y_iload hX 306 rfl rfl ?_
                    refine y_calI hX y_gRo (y_hrVo hX 307 (t := 9) (As := [yi s101.2, yi s108.2]) (a := x3) rfl ycw_Law_82 (fun p e => by cases e; exact km_Flat_ends (yk_G hX) p s101.2 s108.2) (by decide) ⟨rfl, rfl, rfl, by decide, by decide⟩ rfl (Nat.le_trans (y_cs (yc_I _) y_cn) (by decide))) (fun x111 => ?_)
                    refine y_join (S := Int) 581 (fun s112 => [some (.ref (qx_ad X 0)), some (va_rf p2), some (va_rf x3), none, none, some (yi s27.2), some (yi s64.2), some (yi s101.2), none, some (yi s108.2)]) (fun s112 => [yi s112, yi s108.1]) ?_ ?_
                    ·
                      refine y_ifeq hX 308 580 rfl (by decide) ?_ ?_
                      ·
                        refine y_iconst hX 311 0 rfl (by decide) ?_
                        exact y_exit (fun w h => yj_wk (ρ' := [some (.ref (qx_ad X 0)), some (va_rf p2), some (va_rf x3), none, none, some (yi s27.2), some (yi s64.2), some (yi s101.2), none, some (yi s108.2)]) (qw_s (qw_s (qw_s (qw_n (qw_n (qw_s (qw_s (qw_s (qw_n (qw_s (qw_0))))))))))) h)
                      ·
                        refine y_iconst hX 309 1 rfl (by decide) ?_
                        exact y_exit (fun w h => yj_goto hX 310 rfl (by decide) (yj_wk (ρ' := [some (.ref (qx_ad X 0)), some (va_rf p2), some (va_rf x3), none, none, some (yi s27.2), some (yi s64.2), some (yi s101.2), none, some (yi s108.2)]) (qw_s (qw_s (qw_s (qw_n (qw_n (qw_s (qw_s (qw_s (qw_n (qw_s (qw_0))))))))))) h))
                    · intro s112
                      refine y_iadd hX 312 rfl ?_
                      refine y_istore hX 313 (fun x113 => [some (.ref (qx_ad X 0)), some (va_rf p2), some (va_rf x3), none, none, some (yi s27.2), some (yi s64.2), some (yi s101.2), some (yi x113), some (yi s108.2)]) rfl (by decide) (fun _ => rfl) (fun x113 => ?_)
                      refine y_iinc hX 314 (fun x114 => [some (.ref (qx_ad X 0)), some (va_rf p2), some (va_rf x3), none, none, some (yi s27.2), some (yi s64.2), some (yi s101.2), some (yi x113), some (yi x114)]) rfl (by decide) rfl (fun _ => rfl) (fun x114 => ?_)
                      exact y_exit (fun w h => yj_goto hX 315 rfl (by decide) (yj_wk (ρ' := [some (.ref (qx_ad X 0)), some (va_rf p2), some (va_rf x3), none, none, some (yi s27.2), some (yi s64.2), some (yi s101.2), some (yi x113), some (yi x114)]) (qw_s (qw_s (qw_s (qw_n (qw_n (qw_s (qw_s (qw_s (qw_s (qw_s (qw_0))))))))))) h))
                · intro s107
                  refine y_rload_n hX 316 rfl rfl ?_
                  refine y_iload hX 317 rfl rfl ?_
                  refine y_iconst hX 318 0 rfl (by decide) ?_
                  refine y_objI (xs := ([s101.2, (0 : Int)] : List Int)) (m0 := jf_Top_section 0 (Int32.ofInt s101.2) (Int32.ofInt (0 : Int))) hX 319 (a := 0) (ci := 8) (As := [yi s101.2, yi (0 : Int)]) rfl ycv_Law_89 (jm_Top_section (qk_GI hX.1) 0 (Int32.ofInt s101.2) (Int32.ofInt (0 : Int)) (by decide +kernel)) (fun h => is_Top_section (yi_toInt (h _ (by simp))) (yi_toInt (h _ (by simp)))) (by decide +kernel) ⟨rfl, rfl, rfl, by decide, by decide⟩ rfl (Nat.le_trans y_cn (by decide)) (fun x115 => ?_)
                  refine y_aload_n hX 320 rfl rfl ?_
                  refine y_getNR hX 321 (t := 9) (j := 7) rfl yfl_Law_86 (by decide) (by decide +kernel) (fun x116 => ?_)
                  refine y_iload hX 322 rfl rfl ?_
                  refine y_iald hX 323 rfl (fun x117 => ?_)
                  refine y_join (S := Int) 701 (fun s118 => [some (.ref (qx_ad X 0)), some (va_rf p2), some (va_rf x3), none, none, some (yi s27.2), some (yi s64.2), some (yi s101.2), none, none]) (fun s118 => [yi s118]) ?_ ?_
                  ·
                    refine y_join2 (S := Unit) 700 (fun s119 => [some (.ref (qx_ad X 0)), some (va_rf p2), some (va_rf x3), none, none, some (yi s27.2), some (yi s64.2), some (yi s101.2), none, none]) (fun s119 => []) ?_ ?_
                    ·
                      refine y_icne hX 324 700 rfl (by decide) ?_ ?_
                      ·
                        exact y_exit (fun w h => yj_wk (ρ' := [some (.ref (qx_ad X 0)), some (va_rf p2), some (va_rf x3), none, none, some (yi s27.2), some (yi s64.2), some (yi s101.2), none, none]) (qw_s (qw_s (qw_s (qw_n (qw_n (qw_s (qw_s (qw_s (qw_n (qw_n (qw_0))))))))))) h)
                      ·
                        refine y_rload_n hX 325 rfl rfl ?_
                        refine y_iload hX 326 rfl rfl ?_
                        refine y_iconst hX 327 1 rfl (by decide) ?_
                        refine y_objI (xs := ([s101.2, (1 : Int)] : List Int)) (m0 := jf_Top_section 0 (Int32.ofInt s101.2) (Int32.ofInt (1 : Int))) hX 328 (a := 0) (ci := 8) (As := [yi s101.2, yi (1 : Int)]) rfl ycv_Law_89 (jm_Top_section (qk_GI hX.1) 0 (Int32.ofInt s101.2) (Int32.ofInt (1 : Int)) (by decide +kernel)) (fun h => is_Top_section (yi_toInt (h _ (by simp))) (yi_toInt (h _ (by simp)))) (by decide +kernel) ⟨rfl, rfl, rfl, by decide, by decide⟩ rfl (Nat.le_trans y_cn (by decide)) (fun x120 => ?_)
                        refine y_aload_n hX 329 rfl rfl ?_
                        refine y_getNR hX 330 (t := 9) (j := 7) rfl yfl_Law_86 (by decide) (by decide +kernel) (fun x121 => ?_)
                        refine y_iload hX 331 rfl rfl ?_
                        refine y_iconst hX 332 1 rfl (by decide) ?_
                        refine y_iadd hX 333 rfl ?_
                        refine y_iald hX 334 rfl (fun x122 => ?_)
                        refine y_icne hX 335 700 rfl (by decide) ?_ ?_
                        ·
                          exact y_exit (fun w h => yj_wk (ρ' := [some (.ref (qx_ad X 0)), some (va_rf p2), some (va_rf x3), none, none, some (yi s27.2), some (yi s64.2), some (yi s101.2), none, none]) (qw_s (qw_s (qw_s (qw_n (qw_n (qw_s (qw_s (qw_s (qw_n (qw_n (qw_0))))))))))) h)
                        ·
                          refine y_rload_n hX 336 rfl rfl ?_
                          refine y_iload hX 337 rfl rfl ?_
                          refine y_iconst hX 338 2 rfl (by decide) ?_
                          refine y_objI (xs := ([s101.2, (2 : Int)] : List Int)) (m0 := jf_Top_section 0 (Int32.ofInt s101.2) (Int32.ofInt (2 : Int))) hX 339 (a := 0) (ci := 8) (As := [yi s101.2, yi (2 : Int)]) rfl ycv_Law_89 (jm_Top_section (qk_GI hX.1) 0 (Int32.ofInt s101.2) (Int32.ofInt (2 : Int)) (by decide +kernel)) (fun h => is_Top_section (yi_toInt (h _ (by simp))) (yi_toInt (h _ (by simp)))) (by decide +kernel) ⟨rfl, rfl, rfl, by decide, by decide⟩ rfl (Nat.le_trans y_cn (by decide)) (fun x123 => ?_)
                          refine y_aload_n hX 340 rfl rfl ?_
                          refine y_getNR hX 341 (t := 9) (j := 8) rfl yfl_Law_91 (by decide) (by decide +kernel) (fun x124 => ?_)
                          refine y_iload hX 342 rfl rfl ?_
                          refine y_iald hX 343 rfl (fun x125 => ?_)
                          refine y_icne hX 344 700 rfl (by decide) ?_ ?_
                          ·
                            exact y_exit (fun w h => yj_wk (ρ' := [some (.ref (qx_ad X 0)), some (va_rf p2), some (va_rf x3), none, none, some (yi s27.2), some (yi s64.2), some (yi s101.2), none, none]) (qw_s (qw_s (qw_s (qw_n (qw_n (qw_s (qw_s (qw_s (qw_n (qw_n (qw_0))))))))))) h)
                          ·
                            refine y_rload_n hX 345 rfl rfl ?_
                            refine y_iload hX 346 rfl rfl ?_
                            refine y_iconst hX 347 3 rfl (by decide) ?_
                            refine y_objI (xs := ([s101.2, (3 : Int)] : List Int)) (m0 := jf_Top_section 0 (Int32.ofInt s101.2) (Int32.ofInt (3 : Int))) hX 348 (a := 0) (ci := 8) (As := [yi s101.2, yi (3 : Int)]) rfl ycv_Law_89 (jm_Top_section (qk_GI hX.1) 0 (Int32.ofInt s101.2) (Int32.ofInt (3 : Int)) (by decide +kernel)) (fun h => is_Top_section (yi_toInt (h _ (by simp))) (yi_toInt (h _ (by simp)))) (by decide +kernel) ⟨rfl, rfl, rfl, by decide, by decide⟩ rfl (Nat.le_trans y_cn (by decide)) (fun x126 => ?_)
                            refine y_iload hX 349 rfl rfl ?_
                            refine y_icne hX 350 700 rfl (by decide) ?_ ?_
                            ·
                              exact y_exit (fun w h => yj_wk (ρ' := [some (.ref (qx_ad X 0)), some (va_rf p2), some (va_rf x3), none, none, some (yi s27.2), some (yi s64.2), some (yi s101.2), none, none]) (qw_s (qw_s (qw_s (qw_n (qw_n (qw_s (qw_s (qw_s (qw_n (qw_n (qw_0))))))))))) h)
                            ·
                              refine y_rload_n hX 351 rfl rfl ?_
                              refine y_iload hX 352 rfl rfl ?_
                              refine y_iconst hX 353 4 rfl (by decide) ?_
                              refine y_objI (xs := ([s101.2, (4 : Int)] : List Int)) (m0 := jf_Top_section 0 (Int32.ofInt s101.2) (Int32.ofInt (4 : Int))) hX 354 (a := 0) (ci := 8) (As := [yi s101.2, yi (4 : Int)]) rfl ycv_Law_89 (jm_Top_section (qk_GI hX.1) 0 (Int32.ofInt s101.2) (Int32.ofInt (4 : Int)) (by decide +kernel)) (fun h => is_Top_section (yi_toInt (h _ (by simp))) (yi_toInt (h _ (by simp)))) (by decide +kernel) ⟨rfl, rfl, rfl, by decide, by decide⟩ rfl (Nat.le_trans y_cn (by decide)) (fun x127 => ?_)
                              refine y_aload_n hX 355 rfl rfl ?_
                              refine y_aload_n hX 356 rfl rfl ?_
                              refine y_getNR hX 357 (t := 9) (j := 7) rfl yfl_Law_86 (by decide) (by decide +kernel) (fun x128 => ?_)
                              refine y_iload hX 358 rfl rfl ?_
                              refine y_iald hX 359 rfl (fun x129 => ?_)
                              refine y_aload_n hX 360 rfl rfl ?_
                              refine y_getNR hX 361 (t := 9) (j := 7) rfl yfl_Law_86 (by decide) (by decide +kernel) (fun x130 => ?_)
                              refine y_iload hX 362 rfl rfl ?_
                              refine y_iconst hX 363 1 rfl (by decide) ?_
                              refine y_iadd hX 364 rfl ?_
                              refine y_iald hX 365 rfl (fun x131 => ?_)
                              refine y_calI hX y_gRo (y_hrVo hX 366 (t := 9) (As := [yi x129, yi x131]) (a := x3) rfl ycw_Law_94 (fun p e => by cases e; exact km_Flat_own (yk_G hX) p x129 x131) (by decide) ⟨rfl, rfl, rfl, by decide, by decide⟩ rfl (Nat.le_trans (y_cs (yc_I _) y_cn) (by decide))) (fun x132 => ?_)
                              refine y_icne hX 367 700 rfl (by decide) ?_ ?_
                              ·
                                exact y_exit (fun w h => yj_wk (ρ' := [some (.ref (qx_ad X 0)), some (va_rf p2), some (va_rf x3), none, none, some (yi s27.2), some (yi s64.2), some (yi s101.2), none, none]) (qw_s (qw_s (qw_s (qw_n (qw_n (qw_s (qw_s (qw_s (qw_n (qw_n (qw_0))))))))))) h)
                              ·
                                refine y_rload_n hX 368 rfl rfl ?_
                                refine y_iload hX 369 rfl rfl ?_
                                refine y_iconst hX 370 5 rfl (by decide) ?_
                                refine y_objI (xs := ([s101.2, (5 : Int)] : List Int)) (m0 := jf_Top_section 0 (Int32.ofInt s101.2) (Int32.ofInt (5 : Int))) hX 371 (a := 0) (ci := 8) (As := [yi s101.2, yi (5 : Int)]) rfl ycv_Law_89 (jm_Top_section (qk_GI hX.1) 0 (Int32.ofInt s101.2) (Int32.ofInt (5 : Int)) (by decide +kernel)) (fun h => is_Top_section (yi_toInt (h _ (by simp))) (yi_toInt (h _ (by simp)))) (by decide +kernel) ⟨rfl, rfl, rfl, by decide, by decide⟩ rfl (Nat.le_trans y_cn (by decide)) (fun x133 => ?_)
                                refine y_iconst hX 372 (-1) rfl (by decide) ?_
                                refine y_icne hX 373 700 rfl (by decide) ?_ ?_
                                ·
                                  exact y_exit (fun w h => yj_wk (ρ' := [some (.ref (qx_ad X 0)), some (va_rf p2), some (va_rf x3), none, none, some (yi s27.2), some (yi s64.2), some (yi s101.2), none, none]) (qw_s (qw_s (qw_s (qw_n (qw_n (qw_s (qw_s (qw_s (qw_n (qw_n (qw_0))))))))))) h)
                                ·
                                  refine y_iconst hX 374 1 rfl (by decide) ?_
                                  exact y_exit (fun w h => yj_goto hX 375 rfl (by decide) (yj_wk (ρ' := [some (.ref (qx_ad X 0)), some (va_rf p2), some (va_rf x3), none, none, some (yi s27.2), some (yi s64.2), some (yi s101.2), none, none]) (qw_s (qw_s (qw_s (qw_n (qw_n (qw_s (qw_s (qw_s (qw_n (qw_n (qw_0))))))))))) h))
                    · intro s119
                      refine y_iconst hX 376 0 rfl (by decide) ?_
                      exact y_exit (fun w h => yj_wk (ρ' := [some (.ref (qx_ad X 0)), some (va_rf p2), some (va_rf x3), none, none, some (yi s27.2), some (yi s64.2), some (yi s101.2), none, none]) (qw_s (qw_s (qw_s (qw_n (qw_n (qw_s (qw_s (qw_s (qw_n (qw_n (qw_0))))))))))) h)
                  · intro s118
                    refine y_istore_n hX 377 (fun x134 => [some (.ref (qx_ad X 0)), some (va_rf p2), some (va_rf x3), some (yi x134), none, some (yi s27.2), some (yi s64.2), some (yi s101.2), none, none]) rfl (by decide) (fun _ => rfl) (fun x134 => ?_)
                    refine y_iinc hX 378 (fun x135 => [some (.ref (qx_ad X 0)), some (va_rf p2), some (va_rf x3), some (yi x134), none, some (yi s27.2), some (yi s64.2), some (yi x135), none, none]) rfl (by decide) rfl (fun _ => rfl) (fun x135 => ?_)
                    exact y_exit (fun w h => yj_goto hX 379 rfl (by decide) (yj_wk (ρ' := [some (.ref (qx_ad X 0)), some (va_rf p2), some (va_rf x3), some (yi x134), none, some (yi s27.2), some (yi s64.2), some (yi x135), none, none]) (qw_s (qw_s (qw_s (qw_s (qw_n (qw_s (qw_s (qw_s (qw_n (qw_n (qw_0))))))))))) h))
          · intro s100
            refine y_iload_n hX 380 rfl rfl ?_
            refine y_ifeq hX 381 787 rfl (by decide) ?_ ?_
            ·
              refine y_iconst hX 421 0 rfl (by decide) ?_
              exact y_zret hX 422 (by first | exact Or.inl rfl | exact Or.inr rfl) rfl hR (fun _ h => h)
            ·
              refine y_rload_n hX 382 rfl rfl ?_
              refine y_iconst hX 383 3 rfl (by decide) ?_
              refine y_objI (xs := ([(3 : Int)] : List Int)) (m0 := jf_Top_count 0 (Int32.ofInt (3 : Int))) hX 384 (a := 0) (ci := 8) (As := [yi (3 : Int)]) rfl ycv_Law_33 (jm_Top_count (qk_GI hX.1) 0 (Int32.ofInt (3 : Int)) (by decide +kernel)) (fun h => is_Top_count (yi_toInt (h _ (by simp)))) (by decide +kernel) ⟨rfl, rfl, rfl, by decide, by decide⟩ rfl (Nat.le_trans y_cn (by decide)) (fun x136 => ?_)
              refine y_iload hX 385 rfl rfl ?_
              refine y_icne hX 386 787 rfl (by decide) ?_ ?_
              ·
                refine y_iconst hX 421 0 rfl (by decide) ?_
                exact y_zret hX 422 (by first | exact Or.inl rfl | exact Or.inr rfl) rfl hR (fun _ h => h)
              ·
                refine y_rload_n hX 387 rfl rfl ?_
                refine y_bipush hX 388 7 rfl (by decide) ?_
                refine y_objI (xs := ([(7 : Int)] : List Int)) (m0 := jf_Top_count 0 (Int32.ofInt (7 : Int))) hX 389 (a := 0) (ci := 8) (As := [yi (7 : Int)]) rfl ycv_Law_33 (jm_Top_count (qk_GI hX.1) 0 (Int32.ofInt (7 : Int)) (by decide +kernel)) (fun h => is_Top_count (yi_toInt (h _ (by simp)))) (by decide +kernel) ⟨rfl, rfl, rfl, by decide, by decide⟩ rfl (Nat.le_trans y_cn (by decide)) (fun x137 => ?_)
                refine y_iload hX 390 rfl rfl ?_
                refine y_icne hX 391 787 rfl (by decide) ?_ ?_
                ·
                  refine y_iconst hX 421 0 rfl (by decide) ?_
                  exact y_zret hX 422 (by first | exact Or.inl rfl | exact Or.inr rfl) rfl hR (fun _ h => h)
                ·
                  refine y_rload_n hX 392 rfl rfl ?_
                  refine y_aload_n hX 393 rfl rfl ?_
                  refine y_getN hX 394 (t := 10) (j := 1) rfl yfl_Law_36 (by decide) (by decide +kernel) (fun x138 => ?_)
                  refine y_iconst hX 395 0 rfl (by decide) ?_
                  refine y_objI (xs := ([x138, (0 : Int)] : List Int)) (m0 := jf_Top_block 0 (Int32.ofInt x138) (Int32.ofInt (0 : Int))) hX 396 (a := 0) (ci := 8) (As := [yi x138, yi (0 : Int)]) rfl ycv_Law_56 (jm_Top_block (qk_GI hX.1) 0 (Int32.ofInt x138) (Int32.ofInt (0 : Int)) (by decide +kernel)) (fun h => is_Top_block (yi_toInt (h _ (by simp))) (yi_toInt (h _ (by simp)))) (by decide +kernel) ⟨rfl, rfl, rfl, by decide, by decide⟩ rfl (Nat.le_trans y_cn (by decide)) (fun x139 => ?_)
                  refine y_iconst hX 397 (-1) rfl (by decide) ?_
                  refine y_icne hX 398 787 rfl (by decide) ?_ ?_
                  ·
                    refine y_iconst hX 421 0 rfl (by decide) ?_
                    exact y_zret hX 422 (by first | exact Or.inl rfl | exact Or.inr rfl) rfl hR (fun _ h => h)
                  ·
                    refine y_rload_n hX 399 rfl rfl ?_
                    refine y_aload_n hX 400 rfl rfl ?_
                    refine y_getN hX 401 (t := 9) (j := 9) rfl yfl_Law_42 (by decide) (by decide +kernel) (fun x140 => ?_)
                    refine y_iconst hX 402 0 rfl (by decide) ?_
                    refine y_objI (xs := ([x140, (0 : Int)] : List Int)) (m0 := jf_Top_piece 0 (Int32.ofInt x140) (Int32.ofInt (0 : Int))) hX 403 (a := 0) (ci := 8) (As := [yi x140, yi (0 : Int)]) rfl ycv_Law_65 (jm_Top_piece (qk_GI hX.1) 0 (Int32.ofInt x140) (Int32.ofInt (0 : Int)) (by decide +kernel)) (fun h => is_Top_piece (yi_toInt (h _ (by simp))) (yi_toInt (h _ (by simp)))) (by decide +kernel) ⟨rfl, rfl, rfl, by decide, by decide⟩ rfl (Nat.le_trans y_cn (by decide)) (fun x141 => ?_)
                    refine y_iconst hX 404 (-1) rfl (by decide) ?_
                    refine y_icne hX 405 787 rfl (by decide) ?_ ?_
                    ·
                      refine y_iconst hX 421 0 rfl (by decide) ?_
                      exact y_zret hX 422 (by first | exact Or.inl rfl | exact Or.inr rfl) rfl hR (fun _ h => h)
                    ·
                      refine y_rload_n hX 406 rfl rfl ?_
                      refine y_aload_n hX 407 rfl rfl ?_
                      refine y_getN hX 408 (t := 9) (j := 10) rfl yfl_Law_45 (by decide) (by decide +kernel) (fun x142 => ?_)
                      refine y_iconst hX 409 0 rfl (by decide) ?_
                      refine y_objI (xs := ([x142, (0 : Int)] : List Int)) (m0 := jf_Top_section 0 (Int32.ofInt x142) (Int32.ofInt (0 : Int))) hX 410 (a := 0) (ci := 8) (As := [yi x142, yi (0 : Int)]) rfl ycv_Law_89 (jm_Top_section (qk_GI hX.1) 0 (Int32.ofInt x142) (Int32.ofInt (0 : Int)) (by decide +kernel)) (fun h => is_Top_section (yi_toInt (h _ (by simp))) (yi_toInt (h _ (by simp)))) (by decide +kernel) ⟨rfl, rfl, rfl, by decide, by decide⟩ rfl (Nat.le_trans y_cn (by decide)) (fun x143 => ?_)
                      refine y_iconst hX 411 (-1) rfl (by decide) ?_
                      refine y_icne hX 412 787 rfl (by decide) ?_ ?_
                      ·
                        refine y_iconst hX 421 0 rfl (by decide) ?_
                        exact y_zret hX 422 (by first | exact Or.inl rfl | exact Or.inr rfl) rfl hR (fun _ h => h)
                      ·
                        refine y_rload_n hX 413 rfl rfl ?_
                        refine y_iconst hX 414 (-1) rfl (by decide) ?_
                        refine y_iconst hX 415 0 rfl (by decide) ?_
                        refine y_objI (xs := ([(-1 : Int), (0 : Int)] : List Int)) (m0 := jf_Top_note 0 (Int32.ofInt (-1 : Int)) (Int32.ofInt (0 : Int))) hX 416 (a := 0) (ci := 8) (As := [yi (-1 : Int), yi (0 : Int)]) rfl ycv_Law_97 (jm_Top_note (qk_GI hX.1) 0 (Int32.ofInt (-1 : Int)) (Int32.ofInt (0 : Int)) (by decide +kernel)) (fun h => is_Top_note (yi_toInt (h _ (by simp))) (yi_toInt (h _ (by simp)))) (by decide +kernel) ⟨rfl, rfl, rfl, by decide, by decide⟩ rfl (Nat.le_trans y_cn (by decide)) (fun x144 => ?_)
                        refine y_iload hX 417 rfl rfl ?_
                        refine y_icne hX 418 787 rfl (by decide) ?_ ?_
                        ·
                          refine y_iconst hX 421 0 rfl (by decide) ?_
                          exact y_zret hX 422 (by first | exact Or.inl rfl | exact Or.inr rfl) rfl hR (fun _ h => h)
                        ·
                          refine y_iconst hX 419 1 rfl (by decide) ?_
                          refine y_goto hX 420 (tgt := 788) rfl (by decide) ?_
                          exact y_zret hX 422 (by first | exact Or.inl rfl | exact Or.inr rfl) rfl hR (fun _ h => h)
theorem km_Law_same {l : Launch} {G : qm_G} {Y : yY} (hG : yGG G Y) (p2 : Option Nat) : yMM (yQi G Y) l G Y jy_Law_same method_4_code 10 (some .boolean) 8 199 [.ref (G.1 0), va_rf p2] (kf_Law_same Y p2) :=
  y_met (by decide +kernel) jd_Law_same (fun v hv => by simp only [List.mem_cons, List.not_mem_nil, or_false] at hv; rcases hv with rfl | rfl <;> first | exact yc_D _ | rfl) (by exact Nat.le_of_ble_eq_true rfl) hG (fun X Fn r0 w0 hl hg hn hX hR => by subst hl; subst hg; exact kb_Law_same hX hR p2)
