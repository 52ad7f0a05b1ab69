def jl_LRun_some : List qm_I := [(0, .new 8, 3, 3), (3, .dup, 1, 4), (4, .invokespecial 21, 3, 7), (7, .astore_n 3, 1, 8), (8, .aload_n 3, 1, 9), (9, .getfield 7, 3, 12), (12, .iconst 0, 1, 13), (13, .iconst 1, 1, 14), (14, .aload_n 0, 1, 15), (15, .iload_n 1, 1, 16), (16, .invokestatic 95, 3, 19), (19, .iconst 1, 1, 20), (20, .iushr, 1, 21), (21, .iconst 3, 1, 22), (22, .irem, 1, 23), (23, .iadd, 1, 24), (24, .iastore, 1, 25), (25, .aload_n 3, 1, 26), (26, .getfield 7, 3, 29), (29, .iconst 1, 1, 30), (30, .bipush 10, 2, 32), (32, .aload_n 0, 1, 33), (33, .iload_n 1, 1, 34), (34, .iconst 1, 1, 35), (35, .iadd, 1, 36), (36, .invokestatic 95, 3, 39), (39, .iconst 1, 1, 40), (40, .iushr, 1, 41), (41, .bipush 25, 2, 43), (43, .irem, 1, 44), (44, .iadd, 1, 45), (45, .iastore, 1, 46), (46, .iconst 2, 1, 47), (47, .istore 4, 2, 49), (49, .iload 4, 2, 51), (51, .iconst 5, 1, 52), (52, .if_icmp .ge 30, 3, 55), (55, .aload_n 3, 1, 56), (56, .getfield 7, 3, 59), (59, .iload 4, 2, 61), (61, .iconst 1, 1, 62), (62, .aload_n 0, 1, 63), (63, .iload_n 1, 1, 64), (64, .iload 4, 2, 66), (66, .iadd, 1, 67), (67, .invokestatic 95, 3, 70), (70, .iconst 1, 1, 71), (71, .iushr, 1, 72), (72, .iconst 3, 1, 73), (73, .irem, 1, 74), (74, .iadd, 1, 75), (75, .iastore, 1, 76), (76, .iinc 4 1, 3, 79), (79, .goto (-30), 3, 82), (82, .aload_n 3, 1, 83), (83, .getfield 7, 3, 86), (86, .iconst 5, 1, 87), (87, .iconst 1, 1, 88), (88, .aload_n 0, 1, 89), (89, .iload_n 1, 1, 90), (90, .iconst 5, 1, 91), (91, .iadd, 1, 92), (92, .invokestatic 95, 3, 95), (95, .iconst 1, 1, 96), (96, .iushr, 1, 97), (97, .iconst 2, 1, 98), (98, .irem, 1, 99), (99, .iadd, 1, 100), (100, .iastore, 1, 101), (101, .aload_n 3, 1, 102), (102, .getfield 7, 3, 105), (105, .bipush 6, 2, 107), (107, .aload_n 0, 1, 108), (108, .iload_n 1, 1, 109), (109, .bipush 6, 2, 111), (111, .iadd, 1, 112), (112, .invokestatic 95, 3, 115), (115, .iconst 1, 1, 116), (116, .iushr, 1, 117), (117, .iconst 3, 1, 118), (118, .irem, 1, 119), (119, .iastore, 1, 120), (120, .aload_n 3, 1, 121), (121, .getfield 7, 3, 124), (124, .bipush 7, 2, 126), (126, .aload_n 0, 1, 127), (127, .iload_n 1, 1, 128), (128, .bipush 7, 2, 130), (130, .iadd, 1, 131), (131, .invokestatic 95, 3, 134), (134, .iconst 1, 1, 135), (135, .iushr, 1, 136), (136, .bipush 8, 2, 138), (138, .irem, 1, 139), (139, .iastore, 1, 140), (140, .iconst 1, 1, 141), (141, .aload_n 0, 1, 142), (142, .iload_n 1, 1, 143), (143, .bipush 8, 2, 145), (145, .iadd, 1, 146), (146, .invokestatic 95, 3, 149), (149, .iconst 1, 1, 150), (150, .iushr, 1, 151), (151, .iload_n 2, 1, 152), (152, .irem, 1, 153), (153, .iadd, 1, 154), (154, .istore 4, 2, 156), (156, .iconst 0, 1, 157), (157, .istore 5, 2, 159), (159, .iload 5, 2, 161), (161, .iload 4, 2, 163), (163, .if_icmp .ge 496, 3, 166), (166, .aload_n 0, 1, 167), (167, .iload_n 1, 1, 168), (168, .bipush 9, 2, 170), (170, .iadd, 1, 171), (171, .iload 5, 2, 173), (173, .iadd, 1, 174), (174, .invokestatic 95, 3, 177), (177, .iconst 1, 1, 178), (178, .iushr, 1, 179), (179, .istore 6, 2, 181), (181, .iload 6, 2, 183), (183, .iconst 3, 1, 184), (184, .iushr, 1, 185), (185, .bipush 7, 2, 187), (187, .iand, 1, 188), (188, .ifCond .ne 7, 3, 191), (191, .iconst 1, 1, 192), (192, .goto 4, 3, 195), (195, .iconst 0, 1, 196), (196, .istore 7, 2, 198), (198, .iload 6, 2, 200), (200, .bipush 6, 2, 202), (202, .iushr, 1, 203), (203, .iconst 3, 1, 204), (204, .iand, 1, 205), (205, .ifCond .ne 15, 3, 208), (208, .iconst 1, 1, 209), (209, .iload 6, 2, 211), (211, .bipush 8, 2, 213), (213, .iushr, 1, 214), (214, .iconst 4, 1, 215), (215, .irem, 1, 216), (216, .iadd, 1, 217), (217, .goto 4, 3, 220), (220, .iconst 0, 1, 221), (221, .istore 8, 2, 223), (223, .iconst 1, 1, 224), (224, .iload 6, 2, 226), (226, .bipush 10, 2, 228), (228, .iushr, 1, 229), (229, .iconst 5, 1, 230), (230, .irem, 1, 231), (231, .iadd, 1, 232), (232, .istore 9, 2, 234), (234, .iload 6, 2, 236), (236, .bipush 8, 2, 238), (238, .irem, 1, 239), (239, .tableswitch 366 0 6 #[41, 41, 41, 41, 199, 253, 306], 41, 280), (280, .iload 6, 2, 282), (282, .bipush 20, 2, 284), (284, .iushr, 1, 285), (285, .iconst 1, 1, 286), (286, .iand, 1, 287), (287, .ifCond .ne 72, 3, 290), (290, .aload_n 3, 1, 291), (291, .bipush 7, 2, 293), (293, .newarray .int, 2, 295), (295, .dup, 1, 296), (296, .iconst 0, 1, 297), (297, .iconst 0, 1, 298), (298, .iastore, 1, 299), (299, .dup, 1, 300), (300, .iconst 1, 1, 301), (301, .iload 9, 2, 303), (303, .iastore, 1, 304), (304, .dup, 1, 305), (305, .iconst 2, 1, 306), (306, .iconst 1, 1, 307), (307, .iload 6, 2, 309), (309, .bipush 13, 2, 311), (311, .iushr, 1, 312), (312, .iconst 3, 1, 313), (313, .irem, 1, 314), (314, .iadd, 1, 315), (315, .iastore, 1, 316), (316, .dup, 1, 317), (317, .iconst 3, 1, 318), (318, .iconst 0, 1, 319), (319, .iastore, 1, 320), (320, .dup, 1, 321), (321, .iconst 4, 1, 322), (322, .iload 7, 2, 324), (324, .iastore, 1, 325), (325, .dup, 1, 326), (326, .iconst 5, 1, 327), (327, .iload 6, 2, 329), (329, .bipush 15, 2, 331), (331, .iushr, 1, 332), (332, .bipush 7, 2, 334), (334, .iand, 1, 335), (335, .ifCond .ne 7, 3, 338), (338, .iconst 1, 1, 339), (339, .goto 4, 3, 342), (342, .iconst 0, 1, 343), (343, .iastore, 1, 344), (344, .dup, 1, 345), (345, .bipush 6, 2, 347), (347, .iload 8, 2, 349), (349, .iastore, 1, 350), (350, .iconst 0, 1, 351), (351, .newarray .int, 2, 353), (353, .invokevirtual 101, 3, 356), (356, .goto 297, 3, 359), (359, .aload_n 3, 1, 360), (360, .bipush 7, 2, 362), (362, .newarray .int, 2, 364), (364, .dup, 1, 365), (365, .iconst 0, 1, 366), (366, .iconst 0, 1, 367), (367, .iastore, 1, 368), (368, .dup, 1, 369), (369, .iconst 1, 1, 370), (370, .iload 9, 2, 372), (372, .iastore, 1, 373), (373, .dup, 1, 374), (374, .iconst 2, 1, 375), (375, .iconst 1, 1, 376), (376, .iload 6, 2, 378), (378, .bipush 13, 2, 380), (380, .iushr, 1, 381), (381, .iconst 3, 1, 382), (382, .irem, 1, 383), (383, .iadd, 1, 384), (384, .iastore, 1, 385), (385, .dup, 1, 386), (386, .iconst 3, 1, 387), (387, .iconst 0, 1, 388), (388, .iastore, 1, 389), (389, .dup, 1, 390), (390, .iconst 4, 1, 391), (391, .iload 7, 2, 393), (393, .iastore, 1, 394), (394, .dup, 1, 395), (395, .iconst 5, 1, 396), (396, .iconst 0, 1, 397), (397, .iastore, 1, 398), (398, .dup, 1, 399), (399, .bipush 6, 2, 401), (401, .iload 8, 2, 403), (403, .iastore, 1, 404), (404, .iconst 2, 1, 405), (405, .newarray .int, 2, 407), (407, .dup, 1, 408), (408, .iconst 0, 1, 409), (409, .iconst 1, 1, 410), (410, .iload 6, 2, 412), (412, .bipush 21, 2, 414), (414, .iushr, 1, 415), (415, .iload 9, 2, 417), (417, .irem, 1, 418), (418, .iadd, 1, 419), (419, .iastore, 1, 420), (420, .dup, 1, 421), (421, .iconst 1, 1, 422), (422, .iconst 1, 1, 423), (423, .iload 6, 2, 425), (425, .bipush 23, 2, 427), (427, .iushr, 1, 428), (428, .iconst 5, 1, 429), (429, .irem, 1, 430), (430, .iadd, 1, 431), (431, .iastore, 1, 432), (432, .invokevirtual 101, 3, 435), (435, .goto 218, 3, 438), (438, .aload_n 3, 1, 439), (439, .bipush 7, 2, 441), (441, .newarray .int, 2, 443), (443, .dup, 1, 444), (444, .iconst 0, 1, 445), (445, .iconst 1, 1, 446), (446, .iastore, 1, 447), (447, .dup, 1, 448), (448, .iconst 1, 1, 449), (449, .iconst 1, 1, 450), (450, .iastore, 1, 451), (451, .dup, 1, 452), (452, .iconst 2, 1, 453), (453, .iconst 1, 1, 454), (454, .iload 6, 2, 456), (456, .bipush 13, 2, 458), (458, .iushr, 1, 459), (459, .bipush 8, 2, 461), (461, .irem, 1, 462), (462, .iadd, 1, 463), (463, .iastore, 1, 464), (464, .dup, 1, 465), (465, .iconst 3, 1, 466), (466, .iconst 0, 1, 467), (467, .iastore, 1, 468), (468, .dup, 1, 469), (469, .iconst 4, 1, 470), (470, .iload 7, 2, 472), (472, .iastore, 1, 473), (473, .dup, 1, 474), (474, .iconst 5, 1, 475), (475, .iconst 0, 1, 476), (476, .iastore, 1, 477), (477, .dup, 1, 478), (478, .bipush 6, 2, 480), (480, .iload 8, 2, 482), (482, .iastore, 1, 483), (483, .iconst 0, 1, 484), (484, .newarray .int, 2, 486), (486, .invokevirtual 101, 3, 489), (489, .goto 164, 3, 492), (492, .aload_n 3, 1, 493), (493, .bipush 7, 2, 495), (495, .newarray .int, 2, 497), (497, .dup, 1, 498), (498, .iconst 0, 1, 499), (499, .iconst 2, 1, 500), (500, .iastore, 1, 501), (501, .dup, 1, 502), (502, .iconst 1, 1, 503), (503, .iconst 1, 1, 504), (504, .iastore, 1, 505), (505, .dup, 1, 506), (506, .iconst 2, 1, 507), (507, .iconst 1, 1, 508), (508, .iload 6, 2, 510), (510, .bipush 13, 2, 512), (512, .iushr, 1, 513), (513, .iconst 3, 1, 514), (514, .irem, 1, 515), (515, .iadd, 1, 516), (516, .iastore, 1, 517), (517, .dup, 1, 518), (518, .iconst 3, 1, 519), (519, .iconst 0, 1, 520), (520, .iastore, 1, 521), (521, .dup, 1, 522), (522, .iconst 4, 1, 523), (523, .iload 7, 2, 525), (525, .iastore, 1, 526), (526, .dup, 1, 527), (527, .iconst 5, 1, 528), (528, .iconst 0, 1, 529), (529, .iastore, 1, 530), (530, .dup, 1, 531), (531, .bipush 6, 2, 533), (533, .iload 8, 2, 535), (535, .iastore, 1, 536), (536, .iconst 0, 1, 537), (537, .newarray .int, 2, 539), (539, .invokevirtual 101, 3, 542), (542, .goto 111, 3, 545), (545, .aload_n 3, 1, 546), (546, .bipush 7, 2, 548), (548, .newarray .int, 2, 550), (550, .dup, 1, 551), (551, .iconst 0, 1, 552), (552, .iconst 3, 1, 553), (553, .iastore, 1, 554), (554, .dup, 1, 555), (555, .iconst 1, 1, 556), (556, .iload 9, 2, 558), (558, .iastore, 1, 559), (559, .dup, 1, 560), (560, .iconst 2, 1, 561), (561, .iconst 1, 1, 562), (562, .iload 6, 2, 564), (564, .bipush 13, 2, 566), (566, .iushr, 1, 567), (567, .iconst 2, 1, 568), (568, .irem, 1, 569), (569, .iadd, 1, 570), (570, .iastore, 1, 571), (571, .dup, 1, 572), (572, .iconst 3, 1, 573), (573, .iload 6, 2, 575), (575, .bipush 15, 2, 577), (577, .iushr, 1, 578), (578, .iconst 3, 1, 579), (579, .irem, 1, 580), (580, .iastore, 1, 581), (581, .dup, 1, 582), (582, .iconst 4, 1, 583), (583, .iload 7, 2, 585), (585, .iastore, 1, 586), (586, .dup, 1, 587), (587, .iconst 5, 1, 588), (588, .iconst 0, 1, 589), (589, .iastore, 1, 590), (590, .dup, 1, 591), (591, .bipush 6, 2, 593), (593, .iload 8, 2, 595), (595, .iastore, 1, 596), (596, .iconst 0, 1, 597), (597, .newarray .int, 2, 599), (599, .invokevirtual 101, 3, 602), (602, .goto 51, 3, 605), (605, .aload_n 3, 1, 606), (606, .bipush 7, 2, 608), (608, .newarray .int, 2, 610), (610, .dup, 1, 611), (611, .iconst 0, 1, 612), (612, .iconst 4, 1, 613), (613, .iastore, 1, 614), (614, .dup, 1, 615), (615, .iconst 1, 1, 616), (616, .iconst 0, 1, 617), (617, .iastore, 1, 618), (618, .dup, 1, 619), (619, .iconst 2, 1, 620), (620, .iconst 1, 1, 621), (621, .iload 6, 2, 623), (623, .bipush 13, 2, 625), (625, .iushr, 1, 626), (626, .iconst 5, 1, 627), (627, .irem, 1, 628), (628, .iadd, 1, 629), (629, .iastore, 1, 630), (630, .dup, 1, 631), (631, .iconst 3, 1, 632), (632, .iconst 0, 1, 633), (633, .iastore, 1, 634), (634, .dup, 1, 635), (635, .iconst 4, 1, 636), (636, .iconst 0, 1, 637), (637, .iastore, 1, 638), (638, .dup, 1, 639), (639, .iconst 5, 1, 640), (640, .iconst 0, 1, 641), (641, .iastore, 1, 642), (642, .dup, 1, 643), (643, .bipush 6, 2, 645), (645, .iconst 0, 1, 646), (646, .iastore, 1, 647), (647, .iconst 0, 1, 648), (648, .newarray .int, 2, 650), (650, .invokevirtual 101, 3, 653), (653, .iinc 5 1, 3, 656), (656, .goto (-497), 3, 659), (659, .aload_n 3, 1, 660), (660, .areturn, 1, 661)]
theorem jd_LRun_some : qm_D prog_12_method_6_code jl_LRun_some := qm_D_of (by decide +kernel)
noncomputable def kf_LRun_some (Y : yY) (p1 : Option Nat) (p2 : Int) (p3 : Int) : yM (Option Nat) :=
  yB (yNo 20) fun x1 =>
  yB (yKr 20 x1 (kf_LRun_init Y x1)) fun _ =>
  yB (yP x1) fun x3 =>
  yB (yGr 20 x3 0) fun x4 =>
  yB (yK (kf_Law_cell Y p1 p2)) fun x5 =>
  yB (yRm (ybUshr x5 (1 : Int)) (3 : Int)) fun x6 =>
  yB (ySt x4 (0 : Int) ((1 : Int) + x6)) fun _ =>
  yB (yGr 20 x3 0) fun x7 =>
  yB (yK (kf_Law_cell Y p1 (p2 + (1 : Int)))) fun x8 =>
  yB (yRm (ybUshr x8 (1 : Int)) (25 : Int)) fun x9 =>
  yB (ySt x7 (1 : Int) ((10 : Int) + x9)) fun _ =>
  yB (yP (2 : Int)) fun x10 =>
  yB (α := Unit) (
    yLp (S := Int) (α := Unit) (fun s12 =>
      yB (yR2 s12 (5 : Int)) fun _ =>
      if (5 : Int) ≤ s12 then
        yP (Sum.inr ())
      else
        yB (yGr 20 x3 0) fun x13 =>
        yB (yK (kf_Law_cell Y p1 (p2 + s12))) fun x14 =>
        yB (yRm (ybUshr x14 (1 : Int)) (3 : Int)) fun x15 =>
        yB (ySt x13 s12 ((1 : Int) + x15)) fun _ =>
        yB (yP (s12 + 1)) fun x16 =>
        yP (Sum.inl x16)) x10) fun s11 =>
  yB (yGr 20 x3 0) fun x17 =>
  yB (yK (kf_Law_cell Y p1 (p2 + (5 : Int)))) fun x18 =>
  yB (yRm (ybUshr x18 (1 : Int)) (2 : Int)) fun x19 =>
  yB (ySt x17 (5 : Int) ((1 : Int) + x19)) fun _ =>
  yB (yGr 20 x3 0) fun x20 =>
  yB (yK (kf_Law_cell Y p1 (p2 + (6 : Int)))) fun x21 =>
  yB (yRm (ybUshr x21 (1 : Int)) (3 : Int)) fun x22 =>
  yB (ySt x20 (6 : Int) x22) fun _ =>
  yB (yGr 20 x3 0) fun x23 =>
  yB (yK (kf_Law_cell Y p1 (p2 + (7 : Int)))) fun x24 =>
  yB (yRm (ybUshr x24 (1 : Int)) (8 : Int)) fun x25 =>
  yB (ySt x23 (7 : Int) x25) fun _ =>
  yB (yK (kf_Law_cell Y p1 (p2 + (8 : Int)))) fun x26 =>
  yB (yRm (ybUshr x26 (1 : Int)) p3) fun x27 =>
  yB (yP ((1 : Int) + x27)) fun x28 =>
  yB (yP (0 : Int)) fun x29 =>
  yB (α := Unit) (
    yLp (S := Int) (α := Unit) (fun s31 =>
      yB (yR2 s31 x28) fun _ =>
      if x28 ≤ s31 then
        yP (Sum.inr ())
      else
        yB (yK (kf_Law_cell Y p1 ((p2 + (9 : Int)) + s31))) fun x32 =>
        yB (yP (ybUshr x32 (1 : Int))) fun x33 =>
        yB (α := Int) (
          yB (yR (ybAnd (ybUshr x33 (3 : Int)) (7 : Int))) fun _ =>
          if ¬ (ybAnd (ybUshr x33 (3 : Int)) (7 : Int)) = 0 then
            yP (0 : Int)
          else
            yP (1 : Int)) fun s34 =>
        yB (yP s34) fun x35 =>
        yB (α := Int) (
          yB (yR (ybAnd (ybUshr x33 (6 : Int)) (3 : Int))) fun _ =>
          if ¬ (ybAnd (ybUshr x33 (6 : Int)) (3 : Int)) = 0 then
            yP (0 : Int)
          else
            yB (yRm (ybUshr x33 (8 : Int)) (4 : Int)) fun x37 =>
            yP ((1 : Int) + x37)) fun s36 =>
        yB (yP s36) fun x38 =>
        yB (yRm (ybUshr x33 (10 : Int)) (5 : Int)) fun x39 =>
        yB (yP ((1 : Int) + x39)) fun x40 =>
        yB (yRm x33 (8 : Int)) fun x41 =>
        yB (α := Unit) (
          yB (α := (Unit ⊕ Unit)) (
            yB (yR x41) fun _ =>
            if x41 = 0 then
              yP (Sum.inl ())
            else
            if x41 = 1 then
              yP (Sum.inl ())
            else
            if x41 = 2 then
              yP (Sum.inl ())
            else
            if x41 = 3 then
              yP (Sum.inl ())
            else
            if x41 = 4 then
              yB (yNa 1 (7 : Int)) fun x44 =>
              yB (ySt x44 (0 : Int) (1 : Int)) fun _ =>
              yB (ySt x44 (1 : Int) (1 : Int)) fun _ =>
              yB (yRm (ybUshr x33 (13 : Int)) (8 : Int)) fun x45 =>
              yB (ySt x44 (2 : Int) ((1 : Int) + x45)) fun _ =>
              yB (ySt x44 (3 : Int) (0 : Int)) fun _ =>
              yB (ySt x44 (4 : Int) x35) fun _ =>
              yB (ySt x44 (5 : Int) (0 : Int)) fun _ =>
              yB (ySt x44 (6 : Int) x38) fun _ =>
              yB (yNa 1 (0 : Int)) fun x46 =>
              yB (yKr 20 x3 (kf_LRun_adds Y x3 x44 x46)) fun _ =>
              yP (Sum.inr ())
            else
            if x41 = 5 then
              yB (yNa 1 (7 : Int)) fun x48 =>
              yB (ySt x48 (0 : Int) (2 : Int)) fun _ =>
              yB (ySt x48 (1 : Int) (1 : Int)) fun _ =>
              yB (yRm (ybUshr x33 (13 : Int)) (3 : Int)) fun x49 =>
              yB (ySt x48 (2 : Int) ((1 : Int) + x49)) fun _ =>
              yB (ySt x48 (3 : Int) (0 : Int)) fun _ =>
              yB (ySt x48 (4 : Int) x35) fun _ =>
              yB (ySt x48 (5 : Int) (0 : Int)) fun _ =>
              yB (ySt x48 (6 : Int) x38) fun _ =>
              yB (yNa 1 (0 : Int)) fun x50 =>
              yB (yKr 20 x3 (kf_LRun_adds Y x3 x48 x50)) fun _ =>
              yP (Sum.inr ())
            else
            if x41 = 6 then
              yB (yNa 1 (7 : Int)) fun x52 =>
              yB (ySt x52 (0 : Int) (3 : Int)) fun _ =>
              yB (ySt x52 (1 : Int) x40) fun _ =>
              yB (yRm (ybUshr x33 (13 : Int)) (2 : Int)) fun x53 =>
              yB (ySt x52 (2 : Int) ((1 : Int) + x53)) fun _ =>
              yB (yRm (ybUshr x33 (15 : Int)) (3 : Int)) fun x54 =>
              yB (ySt x52 (3 : Int) x54) fun _ =>
              yB (ySt x52 (4 : Int) x35) fun _ =>
              yB (ySt x52 (5 : Int) (0 : Int)) fun _ =>
              yB (ySt x52 (6 : Int) x38) fun _ =>
              yB (yNa 1 (0 : Int)) fun x55 =>
              yB (yKr 20 x3 (kf_LRun_adds Y x3 x52 x55)) fun _ =>
              yP (Sum.inr ())
            else
            yB (yNa 1 (7 : Int)) fun x57 =>
            yB (ySt x57 (0 : Int) (4 : Int)) fun _ =>
            yB (ySt x57 (1 : Int) (0 : Int)) fun _ =>
            yB (yRm (ybUshr x33 (13 : Int)) (5 : Int)) fun x58 =>
            yB (ySt x57 (2 : Int) ((1 : Int) + x58)) fun _ =>
            yB (ySt x57 (3 : Int) (0 : Int)) fun _ =>
            yB (ySt x57 (4 : Int) (0 : Int)) fun _ =>
            yB (ySt x57 (5 : Int) (0 : Int)) fun _ =>
            yB (ySt x57 (6 : Int) (0 : Int)) fun _ =>
            yB (yNa 1 (0 : Int)) fun x59 =>
            yB (yKr 20 x3 (kf_LRun_adds Y x3 x57 x59)) fun _ =>
            yP (Sum.inr ())) (Sum.elim (fun s43 =>
            yB (yR (ybAnd (ybUshr x33 (20 : Int)) (1 : Int))) fun _ =>
            if ¬ (ybAnd (ybUshr x33 (20 : Int)) (1 : Int)) = 0 then
              yB (yNa 1 (7 : Int)) fun x61 =>
              yB (ySt x61 (0 : Int) (0 : Int)) fun _ =>
              yB (ySt x61 (1 : Int) x40) fun _ =>
              yB (yRm (ybUshr x33 (13 : Int)) (3 : Int)) fun x62 =>
              yB (ySt x61 (2 : Int) ((1 : Int) + x62)) fun _ =>
              yB (ySt x61 (3 : Int) (0 : Int)) fun _ =>
              yB (ySt x61 (4 : Int) x35) fun _ =>
              yB (ySt x61 (5 : Int) (0 : Int)) fun _ =>
              yB (ySt x61 (6 : Int) x38) fun _ =>
              yB (yNa 1 (2 : Int)) fun x63 =>
              yB (yRm (ybUshr x33 (21 : Int)) x40) fun x64 =>
              yB (ySt x63 (0 : Int) ((1 : Int) + x64)) fun _ =>
              yB (yRm (ybUshr x33 (23 : Int)) (5 : Int)) fun x65 =>
              yB (ySt x63 (1 : Int) ((1 : Int) + x65)) fun _ =>
              yB (yKr 20 x3 (kf_LRun_adds Y x3 x61 x63)) fun _ =>
              yP ()
            else
              yB (yNa 1 (7 : Int)) fun x67 =>
              yB (ySt x67 (0 : Int) (0 : Int)) fun _ =>
              yB (ySt x67 (1 : Int) x40) fun _ =>
              yB (yRm (ybUshr x33 (13 : Int)) (3 : Int)) fun x68 =>
              yB (ySt x67 (2 : Int) ((1 : Int) + x68)) fun _ =>
              yB (ySt x67 (3 : Int) (0 : Int)) fun _ =>
              yB (ySt x67 (4 : Int) x35) fun _ =>
              yB (α := Int) (
                yB (yR (ybAnd (ybUshr x33 (15 : Int)) (7 : Int))) fun _ =>
                if ¬ (ybAnd (ybUshr x33 (15 : Int)) (7 : Int)) = 0 then
                  yP (0 : Int)
                else
                  yP (1 : Int)) fun s69 =>
              yB (ySt x67 (5 : Int) s69) fun _ =>
              yB (ySt x67 (6 : Int) x38) fun _ =>
              yB (yNa 1 (0 : Int)) fun x70 =>
              yB (yKr 20 x3 (kf_LRun_adds Y x3 x67 x70)) fun _ =>
              yP ()) yP)) fun s42 =>
        yB (yP (s31 + 1)) fun x72 =>
        yP (Sum.inl x72)) x29) fun s30 =>
  yB (yNn x3) fun _ =>
  yP x3
set_option maxRecDepth 20000 in
set_option maxHeartbeats 4000000 in
theorem kb_LRun_some {X : qm_X} {Y : yY} {Fn : yFn} (hX : y_ok X Y Fn qr_LRun prog_12_method_6_code 10 2 32 jl_LRun_some) {r0 : Option Nat} {w0 : yW} (hR : y_RR X Y Fn r0 w0 (.object "ColumnsLevelledLaw$Run")) (p1 : Option Nat) (p2 : Int) (p3 : Int) : yb X Y Fn (kf_LRun_some Y p1 p2 p3) 0 [some (va_rf p1), some (yi p2), some (yi p3), none, none, none, none, none, none, none] [] (fun r w1 => r = r0 ∧ w1 = w0) := by
  unfold kf_LRun_some
  refine y_new hX 0 (t := 10) rfl yn_LRun_8 (by decide) (fun x1 => ?_)
  refine y_dup hX 1 rfl (yc_D _) ?_
  refine y_calV hX y_gRo (y_hrIo hX 2 (t := 10) (As := []) (a := x1) rfl ycw_LRun_21 (fun p e => by cases e; exact km_LRun_init (yk_G hX) p) ⟨rfl, by decide, by decide⟩ rfl (Nat.le_trans (y_cs (yc_D _) y_cn) (by decide))) ?_
  refine y_astore_n hX 3 (fun x3 => [some (va_rf p1), some (yi p2), some (yi p3), some (va_rf x3), none, none, none, none, none, none]) rfl (by decide) (fun _ => rfl) (fun x3 => ?_)
  refine y_aload_n hX 4 rfl rfl ?_
  refine y_getR hX 5 (t := 10) (j := 0) rfl yfl_LRun_7 (by decide) (by decide +kernel) (fun x4 => ?_)
  refine y_iconst hX 6 0 rfl (by decide) ?_
  refine y_iconst hX 7 1 rfl (by decide) ?_
  refine y_aload_n hX 8 rfl rfl ?_
  refine y_iload_n hX 9 rfl rfl ?_
  refine y_calI hX y_gK (y_hrN hX 10 (As := [va_rf p1, yi p2]) rfl ycw_LRun_95 (km_Law_cell (yk_G hX) p1 p2) ⟨rfl, by decide, by decide⟩ rfl (Nat.le_trans (y_cs (yc_I _) (y_cs (yc_I _) (y_cs (yc_D _) y_cn))) (by decide))) (fun x5 => ?_)
  refine y_iconst hX 11 1 rfl (by decide) ?_
  refine y_iushr hX 12 rfl ?_
  refine y_iconst hX 13 3 rfl (by decide) ?_
  refine y_irem hX 14 rfl (fun x6 => ?_)
  refine y_iadd hX 15 rfl ?_
  refine y_iast hX 16 rfl ?_
  refine y_aload_n hX 17 rfl rfl ?_
  refine y_getR hX 18 (t := 10) (j := 0) rfl yfl_LRun_7 (by decide) (by decide +kernel) (fun x7 => ?_)
  refine y_iconst hX 19 1 rfl (by decide) ?_
  refine y_bipush hX 20 10 rfl (by decide) ?_
  refine y_aload_n hX 21 rfl rfl ?_
  refine y_iload_n hX 22 rfl rfl ?_
  refine y_iconst hX 23 1 rfl (by decide) ?_
  refine y_iadd hX 24 rfl ?_
  refine y_calI hX y_gK (y_hrN hX 25 (As := [va_rf p1, yi (p2 + (1 : Int))]) rfl ycw_LRun_95 (km_Law_cell (yk_G hX) p1 (p2 + (1 : Int))) ⟨rfl, by decide, by decide⟩ rfl (Nat.le_trans (y_cs (yc_I _) (y_cs (yc_I _) (y_cs (yc_D _) y_cn))) (by decide))) (fun x8 => ?_)
  refine y_iconst hX 26 1 rfl (by decide) ?_
  refine y_iushr hX 27 rfl ?_
  refine y_bipush hX 28 25 rfl (by decide) ?_
  refine y_irem hX 29 rfl (fun x9 => ?_)
  refine y_iadd hX 30 rfl ?_
  refine y_iast hX 31 rfl ?_
  refine y_iconst hX 32 2 rfl (by decide) ?_
  refine y_istore hX 33 (fun x10 => [some (va_rf p1), some (yi p2), some (yi p3), some (va_rf x3), some (yi x10), none, none, none, none, none]) rfl (by decide) (fun _ => rfl) (fun x10 => ?_)
  refine y_join (S := Unit) 82 (fun s11 => [some (va_rf p1), some (yi p2), some (yi p3), some (va_rf x3), none, none, none, none, none, none]) (fun s11 => []) ?_ ?_
  ·
    refine y_loopw (S := Int) (x10) (fun s12 => [some (va_rf p1), some (yi p2), some (yi p3), some (va_rf x3), some (yi s12), none, none, none, none, none]) (qw_s (qw_s (qw_s (qw_s (qw_s (qw_n (qw_n (qw_n (qw_n (qw_n (qw_0))))))))))) (fun s12 => ?_)
    refine y_iload hX 34 rfl rfl ?_
    refine y_iconst hX 35 5 rfl (by decide) ?_
    refine y_icge hX 36 82 rfl (by decide) ?_ ?_
    ·
      exact y_exit (fun w h => yj_wk (ρ' := [some (va_rf p1), some (yi p2), some (yi p3), some (va_rf x3), none, none, none, none, none, none]) (qw_s (qw_s (qw_s (qw_s (qw_n (qw_n (qw_n (qw_n (qw_n (qw_n (qw_0))))))))))) h)
    ·
      refine y_aload_n hX 37 rfl rfl ?_
      refine y_getR hX 38 (t := 10) (j := 0) rfl yfl_LRun_7 (by decide) (by decide +kernel) (fun x13 => ?_)
      refine y_iload hX 39 rfl rfl ?_
      refine y_iconst hX 40 1 rfl (by decide) ?_
      refine y_aload_n hX 41 rfl rfl ?_
      refine y_iload_n hX 42 rfl rfl ?_
      refine y_iload hX 43 rfl rfl ?_
      refine y_iadd hX 44 rfl ?_
      refine y_calI hX y_gK (y_hrN hX 45 (As := [va_rf p1, yi (p2 + s12)]) rfl ycw_LRun_95 (km_Law_cell (yk_G hX) p1 (p2 + s12)) ⟨rfl, by decide, by decide⟩ rfl (Nat.le_trans (y_cs (yc_I _) (y_cs (yc_I _) (y_cs (yc_D _) y_cn))) (by decide))) (fun x14 => ?_)
      refine y_iconst hX 46 1 rfl (by decide) ?_
      refine y_iushr hX 47 rfl ?_
      refine y_iconst hX 48 3 rfl (by decide) ?_
      refine y_irem hX 49 rfl (fun x15 => ?_)
      refine y_iadd hX 50 rfl ?_
      refine y_iast hX 51 rfl ?_
      refine y_iinc hX 52 (fun x16 => [some (va_rf p1), some (yi p2), some (yi p3), some (va_rf x3), some (yi x16), none, none, none, none, none]) rfl (by decide) rfl (fun _ => rfl) (fun x16 => ?_)
      exact y_exit (fun w h => yj_goto hX 53 rfl (by decide) (yj_wk (ρ' := [some (va_rf p1), some (yi p2), some (yi p3), some (va_rf x3), some (yi x16), none, none, none, none, none]) (qw_s (qw_s (qw_s (qw_s (qw_s (qw_n (qw_n (qw_n (qw_n (qw_n (qw_0))))))))))) h))
  · intro s11
    refine y_aload_n hX 54 rfl rfl ?_
    refine y_getR hX 55 (t := 10) (j := 0) rfl yfl_LRun_7 (by decide) (by decide +kernel) (fun x17 => ?_)
    refine y_iconst hX 56 5 rfl (by decide) ?_
    refine y_iconst hX 57 1 rfl (by decide) ?_
    refine y_aload_n hX 58 rfl rfl ?_
    refine y_iload_n hX 59 rfl rfl ?_
    refine y_iconst hX 60 5 rfl (by decide) ?_
    refine y_iadd hX 61 rfl ?_
    refine y_calI hX y_gK (y_hrN hX 62 (As := [va_rf p1, yi (p2 + (5 : Int))]) rfl ycw_LRun_95 (km_Law_cell (yk_G hX) p1 (p2 + (5 : Int))) ⟨rfl, by decide, by decide⟩ rfl (Nat.le_trans (y_cs (yc_I _) (y_cs (yc_I _) (y_cs (yc_D _) y_cn))) (by decide))) (fun x18 => ?_)
    refine y_iconst hX 63 1 rfl (by decide) ?_
    refine y_iushr hX 64 rfl ?_
    refine y_iconst hX 65 2 rfl (by decide) ?_
    refine y_irem hX 66 rfl (fun x19 => ?_)
    refine y_iadd hX 67 rfl ?_
    refine y_iast hX 68 rfl ?_
    refine y_aload_n hX 69 rfl rfl ?_
    refine y_getR hX 70 (t := 10) (j := 0) rfl yfl_LRun_7 (by decide) (by decide +kernel) (fun x20 => ?_)
    refine y_bipush hX 71 6 rfl (by decide) ?_
    refine y_aload_n hX 72 rfl rfl ?_
    refine y_iload_n hX 73 rfl rfl ?_
    refine y_bipush hX 74 6 rfl (by decide) ?_
    refine y_iadd hX 75 rfl ?_
    refine y_calI hX y_gK (y_hrN hX 76 (As := [va_rf p1, yi (p2 + (6 : Int))]) rfl ycw_LRun_95 (km_Law_cell (yk_G hX) p1 (p2 + (6 : Int))) ⟨rfl, by decide, by decide⟩ rfl (Nat.le_trans (y_cs (yc_I _) (y_cs (yc_D _) y_cn)) (by decide))) (fun x21 => ?_)
    refine y_iconst hX 77 1 rfl (by decide) ?_
    refine y_iushr hX 78 rfl ?_
    refine y_iconst hX 79 3 rfl (by decide) ?_
    refine y_irem hX 80 rfl (fun x22 => ?_)
    refine y_iast hX 81 rfl ?_
    refine y_aload_n hX 82 rfl rfl ?_
    refine y_getR hX 83 (t := 10) (j := 0) rfl yfl_LRun_7 (by decide) (by decide +kernel) (fun x23 => ?_)
    refine y_bipush hX 84 7 rfl (by decide) ?_
    refine y_aload_n hX 85 rfl rfl ?_
    refine y_iload_n hX 86 rfl rfl ?_
    refine y_bipush hX 87 7 rfl (by decide) ?_
    refine y_iadd hX 88 rfl ?_
    refine y_calI hX y_gK (y_hrN hX 89 (As := [va_rf p1, yi (p2 + (7 : Int))]) rfl ycw_LRun_95 (km_Law_cell (yk_G hX) p1 (p2 + (7 : Int))) ⟨rfl, by decide, by decide⟩ rfl (Nat.le_trans (y_cs (yc_I _) (y_cs (yc_D _) y_cn)) (by decide))) (fun x24 => ?_)
    refine y_iconst hX 90 1 rfl (by decide) ?_
    refine y_iushr hX 91 rfl ?_
    refine y_bipush hX 92 8 rfl (by decide) ?_
    refine y_irem hX 93 rfl (fun x25 => ?_)
    refine y_iast hX 94 rfl ?_
    refine y_iconst hX 95 1 rfl (by decide) ?_
    refine y_aload_n hX 96 rfl rfl ?_
    refine y_iload_n hX 97 rfl rfl ?_
    refine y_bipush hX 98 8 rfl (by decide) ?_
    refine y_iadd hX 99 rfl ?_
    refine y_calI hX y_gK (y_hrN hX 100 (As := [va_rf p1, yi (p2 + (8 : Int))]) rfl ycw_LRun_95 (km_Law_cell (yk_G hX) p1 (p2 + (8 : Int))) ⟨rfl, by decide, by decide⟩ rfl (Nat.le_trans (y_cs (yc_I _) y_cn) (by decide))) (fun x26 => ?_)
    refine y_iconst hX 101 1 rfl (by decide) ?_
    refine y_iushr hX 102 rfl ?_
    refine y_iload_n hX 103 rfl rfl ?_
    refine y_irem hX 104 rfl (fun x27 => ?_)
    refine y_iadd hX 105 rfl ?_
    refine y_istore hX 106 (fun x28 => [some (va_rf p1), some (yi p2), some (yi p3), some (va_rf x3), some (yi x28), none, none, none, none, none]) rfl (by decide) (fun _ => rfl) (fun x28 => ?_)
    refine y_iconst hX 107 0 rfl (by decide) ?_
    refine y_istore hX 108 (fun x29 => [some (va_rf p1), some (yi p2), some (yi p3), some (va_rf x3), some (yi x28), some (yi x29), none, none, none, none]) rfl (by decide) (fun _ => rfl) (fun x29 => ?_)
    refine y_join (S := Unit) 659 (fun s30 => [none, none, none, some (va_rf x3), none, none, none, none, none, none]) (fun s30 => []) ?_ ?_
    ·
      refine y_loopw (S := Int) (x29) (fun s31 => [some (va_rf p1), some (yi p2), none, some (va_rf x3), some (yi x28), some (yi s31), none, none, none, none]) (qw_s (qw_s (qw_n (qw_s (qw_s (qw_s (qw_n (qw_n (qw_n (qw_n (qw_0))))))))))) (fun s31 => ?_)
      refine y_iload hX 109 rfl rfl ?_
      refine y_iload hX 110 rfl rfl ?_
      refine y_icge hX 111 659 rfl (by decide) ?_ ?_
      ·
        exact y_exit (fun w h => yj_wk (ρ' := [none, none, none, some (va_rf x3), none, none, none, none, none, none]) (qw_n (qw_n (qw_n (qw_s (qw_n (qw_n (qw_n (qw_n (qw_n (qw_n (qw_0))))))))))) h)
      ·
        refine y_aload_n hX 112 rfl rfl ?_
        refine y_iload_n hX 113 rfl rfl ?_
        refine y_bipush hX 114 9 rfl (by decide) ?_
        refine y_iadd hX 115 rfl ?_
        refine y_iload hX 116 rfl rfl ?_
        refine y_iadd hX 117 rfl ?_
        refine y_calI hX y_gK (y_hrN hX 118 (As := [va_rf p1, yi ((p2 + (9 : Int)) + s31)]) rfl ycw_LRun_95 (km_Law_cell (yk_G hX) p1 ((p2 + (9 : Int)) + s31)) ⟨rfl, by decide, by decide⟩ rfl (Nat.le_trans y_cn (by decide))) (fun x32 => ?_)
        refine y_iconst hX 119 1 rfl (by decide) ?_
        refine y_iushr hX 120 rfl ?_
        refine y_istore hX 121 (fun x33 => [some (va_rf p1), some (yi p2), none, some (va_rf x3), some (yi x28), some (yi s31), some (yi x33), none, none, none]) rfl (by decide) (fun _ => rfl) (fun x33 => ?_)
        refine y_iload hX 122 rfl rfl ?_
        refine y_iconst hX 123 3 rfl (by decide) ?_
        refine y_iushr hX 124 rfl ?_
        refine y_bipush hX 125 7 rfl (by decide) ?_
        refine y_iand hX 126 rfl ?_
        refine y_join (S := Int) 196 (fun s34 => [some (va_rf p1), some (yi p2), none, some (va_rf x3), some (yi x28), some (yi s31), some (yi x33), none, none, none]) (fun s34 => [yi s34]) ?_ ?_
        ·
          refine y_ifne hX 127 195 rfl (by decide) ?_ ?_
          ·
            refine y_iconst hX 130 0 rfl (by decide) ?_
            exact y_exit (fun w h => yj_wk (ρ' := [some (va_rf p1), some (yi p2), none, some (va_rf x3), some (yi x28), some (yi s31), some (yi x33), none, none, none]) (qw_s (qw_s (qw_n (qw_s (qw_s (qw_s (qw_s (qw_n (qw_n (qw_n (qw_0))))))))))) h)
          ·
            refine y_iconst hX 128 1 rfl (by decide) ?_
            exact y_exit (fun w h => yj_goto hX 129 rfl (by decide) (yj_wk (ρ' := [some (va_rf p1), some (yi p2), none, some (va_rf x3), some (yi x28), some (yi s31), some (yi x33), none, none, none]) (qw_s (qw_s (qw_n (qw_s (qw_s (qw_s (qw_s (qw_n (qw_n (qw_n (qw_0))))))))))) h))
        · intro s34
          refine y_istore hX 131 (fun x35 => [some (va_rf p1), some (yi p2), none, some (va_rf x3), some (yi x28), some (yi s31), some (yi x33), some (yi x35), none, none]) rfl (by decide) (fun _ => rfl) (fun x35 => ?_)
          refine y_iload hX 132 rfl rfl ?_
          refine y_bipush hX 133 6 rfl (by decide) ?_
          refine y_iushr hX 134 rfl ?_
          refine y_iconst hX 135 3 rfl (by decide) ?_
          refine y_iand hX 136 rfl ?_
          refine y_join (S := Int) 221 (fun s36 => [some (va_rf p1), some (yi p2), none, some (va_rf x3), some (yi x28), some (yi s31), some (yi x33), some (yi x35), none, none]) (fun s36 => [yi s36]) ?_ ?_
          ·
            refine y_ifne hX 137 220 rfl (by decide) ?_ ?_
            ·
              refine y_iconst hX 146 0 rfl (by decide) ?_
              exact y_exit (fun w h => yj_wk (ρ' := [some (va_rf p1), some (yi p2), none, some (va_rf x3), some (yi x28), some (yi s31), some (yi x33), some (yi x35), none, none]) (qw_s (qw_s (qw_n (qw_s (qw_s (qw_s (qw_s (qw_s (qw_n (qw_n (qw_0))))))))))) h)
            ·
              refine y_iconst hX 138 1 rfl (by decide) ?_
              refine y_iload hX 139 rfl rfl ?_
              refine y_bipush hX 140 8 rfl (by decide) ?_
              refine y_iushr hX 141 rfl ?_
              refine y_iconst hX 142 4 rfl (by decide) ?_
              refine y_irem hX 143 rfl (fun x37 => ?_)
              refine y_iadd hX 144 rfl ?_
              exact y_exit (fun w h => yj_goto hX 145 rfl (by decide) (yj_wk (ρ' := [some (va_rf p1), some (yi p2), none, some (va_rf x3), some (yi x28), some (yi s31), some (yi x33), some (yi x35), none, none]) (qw_s (qw_s (qw_n (qw_s (qw_s (qw_s (qw_s (qw_s (qw_n (qw_n (qw_0))))))))))) h))
          · intro s36
            refine y_istore hX 147 (fun x38 => [some (va_rf p1), some (yi p2), none, some (va_rf x3), some (yi x28), some (yi s31), some (yi x33), some (yi x35), some (yi x38), none]) rfl (by decide) (fun _ => rfl) (fun x38 => ?_)
            refine y_iconst hX 148 1 rfl (by decide) ?_
            refine y_iload hX 149 rfl rfl ?_
            refine y_bipush hX 150 10 rfl (by decide) ?_
            refine y_iushr hX 151 rfl ?_
            refine y_iconst hX 152 5 rfl (by decide) ?_
            refine y_irem hX 153 rfl (fun x39 => ?_)
            refine y_iadd hX 154 rfl ?_
            refine y_istore hX 155 (fun x40 => [some (va_rf p1), some (yi p2), none, some (va_rf x3), some (yi x28), some (yi s31), some (yi x33), some (yi x35), some (yi x38), some (yi x40)]) rfl (by decide) (fun _ => rfl) (fun x40 => ?_)
            refine y_iload hX 156 rfl rfl ?_
            refine y_bipush hX 157 8 rfl (by decide) ?_
            refine y_irem hX 158 rfl (fun x41 => ?_)
            refine y_join (S := Unit) 653 (fun s42 => [some (va_rf p1), some (yi p2), none, some (va_rf x3), some (yi x28), some (yi s31), none, none, none, none]) (fun s42 => []) ?_ ?_
            ·
              refine y_join2 (S := Unit) 280 (fun s43 => [some (va_rf p1), some (yi p2), none, some (va_rf x3), some (yi x28), some (yi s31), some (yi x33), some (yi x35), some (yi x38), some (yi x40)]) (fun s43 => []) ?_ ?_
              ·
                refine y_swR (fun hx => ?_)
                refine y_swc 0 ?_ (fun h0 => ?_)
                ·
                  refine y_tin hX 159 280 rfl (by decide) (by decide) rfl (by decide) ?_
                  exact y_exit (fun w h => yj_wk (ρ' := [some (va_rf p1), some (yi p2), none, some (va_rf x3), some (yi x28), some (yi s31), some (yi x33), some (yi x35), some (yi x38), some (yi x40)]) (qw_s (qw_s (qw_n (qw_s (qw_s (qw_s (qw_s (qw_s (qw_s (qw_s (qw_0))))))))))) h)
                refine y_swc 1 ?_ (fun h1 => ?_)
                ·
                  refine y_tin hX 159 280 rfl (by decide) (by decide) rfl (by decide) ?_
                  exact y_exit (fun w h => yj_wk (ρ' := [some (va_rf p1), some (yi p2), none, some (va_rf x3), some (yi x28), some (yi s31), some (yi x33), some (yi x35), some (yi x38), some (yi x40)]) (qw_s (qw_s (qw_n (qw_s (qw_s (qw_s (qw_s (qw_s (qw_s (qw_s (qw_0))))))))))) h)
                refine y_swc 2 ?_ (fun h2 => ?_)
                ·
                  refine y_tin hX 159 280 rfl (by decide) (by decide) rfl (by decide) ?_
                  exact y_exit (fun w h => yj_wk (ρ' := [some (va_rf p1), some (yi p2), none, some (va_rf x3), some (yi x28), some (yi s31), some (yi x33), some (yi x35), some (yi x38), some (yi x40)]) (qw_s (qw_s (qw_n (qw_s (qw_s (qw_s (qw_s (qw_s (qw_s (qw_s (qw_0))))))))))) h)
                refine y_swc 3 ?_ (fun h3 => ?_)
                ·
                  refine y_tin hX 159 280 rfl (by decide) (by decide) rfl (by decide) ?_
                  exact y_exit (fun w h => yj_wk (ρ' := [some (va_rf p1), some (yi p2), none, some (va_rf x3), some (yi x28), some (yi s31), some (yi x33), some (yi x35), some (yi x38), some (yi x40)]) (qw_s (qw_s (qw_n (qw_s (qw_s (qw_s (qw_s (qw_s (qw_s (qw_s (qw_0))))))))))) h)
                refine y_swc 4 ?_ (fun h4 => ?_)
                ·
                  refine y_tin hX 159 438 rfl (by decide) (by decide) rfl (by decide) ?_
                  refine y_aload_n hX 276 rfl rfl ?_
                  refine y_bipush hX 277 7 rfl (by decide) ?_
                  refine y_newa hX 278 (t := 1) rfl zw_int rfl (by decide) (fun x44 => ?_)
                  refine y_dup hX 279 rfl (yc_D _) ?_
                  refine y_iconst hX 280 0 rfl (by decide) ?_
                  refine y_iconst hX 281 1 rfl (by decide) ?_
                  refine y_iast hX 282 rfl ?_
                  refine y_dup hX 283 rfl (yc_D _) ?_
                  refine y_iconst hX 284 1 rfl (by decide) ?_
                  refine y_iconst hX 285 1 rfl (by decide) ?_
                  refine y_iast hX 286 rfl ?_
                  refine y_dup hX 287 rfl (yc_D _) ?_
                  refine y_iconst hX 288 2 rfl (by decide) ?_
                  refine y_iconst hX 289 1 rfl (by decide) ?_
                  refine y_iload hX 290 rfl rfl ?_
                  refine y_bipush hX 291 13 rfl (by decide) ?_
                  refine y_iushr hX 292 rfl ?_
                  refine y_bipush hX 293 8 rfl (by decide) ?_
                  refine y_irem hX 294 rfl (fun x45 => ?_)
                  refine y_iadd hX 295 rfl ?_
                  refine y_iast hX 296 rfl ?_
                  refine y_dup hX 297 rfl (yc_D _) ?_
                  refine y_iconst hX 298 3 rfl (by decide) ?_
                  refine y_iconst hX 299 0 rfl (by decide) ?_
                  refine y_iast hX 300 rfl ?_
                  refine y_dup hX 301 rfl (yc_D _) ?_
                  refine y_iconst hX 302 4 rfl (by decide) ?_
                  refine y_iload hX 303 rfl rfl ?_
                  refine y_iast hX 304 rfl ?_
                  refine y_dup hX 305 rfl (yc_D _) ?_
                  refine y_iconst hX 306 5 rfl (by decide) ?_
                  refine y_iconst hX 307 0 rfl (by decide) ?_
                  refine y_iast hX 308 rfl ?_
                  refine y_dup hX 309 rfl (yc_D _) ?_
                  refine y_bipush hX 310 6 rfl (by decide) ?_
                  refine y_iload hX 311 rfl rfl ?_
                  refine y_iast hX 312 rfl ?_
                  refine y_iconst hX 313 0 rfl (by decide) ?_
                  refine y_newa hX 314 (t := 1) rfl zw_int rfl (by decide) (fun x46 => ?_)
                  refine y_calV hX y_gRo (y_hrVo hX 315 (t := 10) (As := [va_rf x44, va_rf x46]) (a := x3) rfl ycw_LRun_101 (fun p e => by cases e; exact km_LRun_adds (yk_G hX) p x44 x46) (by decide) ⟨rfl, rfl, rfl, by decide, by decide⟩ rfl (Nat.le_trans y_cn (by decide))) ?_
                  exact y_exit (fun w h => yj_goto hX 316 rfl (by decide) (yj_wk (ρ' := [some (va_rf p1), some (yi p2), none, some (va_rf x3), some (yi x28), some (yi s31), none, none, none, none]) (qw_s (qw_s (qw_n (qw_s (qw_s (qw_s (qw_n (qw_n (qw_n (qw_n (qw_0))))))))))) h))
                refine y_swc 5 ?_ (fun h5 => ?_)
                ·
                  refine y_tin hX 159 492 rfl (by decide) (by decide) rfl (by decide) ?_
                  refine y_aload_n hX 317 rfl rfl ?_
                  refine y_bipush hX 318 7 rfl (by decide) ?_
                  refine y_newa hX 319 (t := 1) rfl zw_int rfl (by decide) (fun x48 => ?_)
                  refine y_dup hX 320 rfl (yc_D _) ?_
                  refine y_iconst hX 321 0 rfl (by decide) ?_
                  refine y_iconst hX 322 2 rfl (by decide) ?_
                  refine y_iast hX 323 rfl ?_
                  refine y_dup hX 324 rfl (yc_D _) ?_
                  refine y_iconst hX 325 1 rfl (by decide) ?_
                  refine y_iconst hX 326 1 rfl (by decide) ?_
                  refine y_iast hX 327 rfl ?_
                  refine y_dup hX 328 rfl (yc_D _) ?_
                  refine y_iconst hX 329 2 rfl (by decide) ?_
                  refine y_iconst hX 330 1 rfl (by decide) ?_
                  refine y_iload hX 331 rfl rfl ?_
                  refine y_bipush hX 332 13 rfl (by decide) ?_
                  refine y_iushr hX 333 rfl ?_
                  refine y_iconst hX 334 3 rfl (by decide) ?_
                  refine y_irem hX 335 rfl (fun x49 => ?_)
                  refine y_iadd hX 336 rfl ?_
                  refine y_iast hX 337 rfl ?_
                  refine y_dup hX 338 rfl (yc_D _) ?_
                  refine y_iconst hX 339 3 rfl (by decide) ?_
                  refine y_iconst hX 340 0 rfl (by decide) ?_
                  refine y_iast hX 341 rfl ?_
                  refine y_dup hX 342 rfl (yc_D _) ?_
                  refine y_iconst hX 343 4 rfl (by decide) ?_
                  refine y_iload hX 344 rfl rfl ?_
                  refine y_iast hX 345 rfl ?_
                  refine y_dup hX 346 rfl (yc_D _) ?_
                  refine y_iconst hX 347 5 rfl (by decide) ?_
                  refine y_iconst hX 348 0 rfl (by decide) ?_
                  refine y_iast hX 349 rfl ?_
                  refine y_dup hX 350 rfl (yc_D _) ?_
                  refine y_bipush hX 351 6 rfl (by decide) ?_
                  refine y_iload hX 352 rfl rfl ?_
                  refine y_iast hX 353 rfl ?_
                  refine y_iconst hX 354 0 rfl (by decide) ?_
                  refine y_newa hX 355 (t := 1) rfl zw_int rfl (by decide) (fun x50 => ?_)
                  refine y_calV hX y_gRo (y_hrVo hX 356 (t := 10) (As := [va_rf x48, va_rf x50]) (a := x3) rfl ycw_LRun_101 (fun p e => by cases e; exact km_LRun_adds (yk_G hX) p x48 x50) (by decide) ⟨rfl, rfl, rfl, by decide, by decide⟩ rfl (Nat.le_trans y_cn (by decide))) ?_
                  exact y_exit (fun w h => yj_goto hX 357 rfl (by decide) (yj_wk (ρ' := [some (va_rf p1), some (yi p2), none, some (va_rf x3), some (yi x28), some (yi s31), none, none, none, none]) (qw_s (qw_s (qw_n (qw_s (qw_s (qw_s (qw_n (qw_n (qw_n (qw_n (qw_0))))))))))) h))
                refine y_swc 6 ?_ (fun h6 => ?_)
                ·
                  refine y_tin hX 159 545 rfl (by decide) (by decide) rfl (by decide) ?_
                  refine y_aload_n hX 358 rfl rfl ?_
                  refine y_bipush hX 359 7 rfl (by decide) ?_
                  refine y_newa hX 360 (t := 1) rfl zw_int rfl (by decide) (fun x52 => ?_)
                  refine y_dup hX 361 rfl (yc_D _) ?_
                  refine y_iconst hX 362 0 rfl (by decide) ?_
                  refine y_iconst hX 363 3 rfl (by decide) ?_
                  refine y_iast hX 364 rfl ?_
                  refine y_dup hX 365 rfl (yc_D _) ?_
                  refine y_iconst hX 366 1 rfl (by decide) ?_
                  refine y_iload hX 367 rfl rfl ?_
                  refine y_iast hX 368 rfl ?_
                  refine y_dup hX 369 rfl (yc_D _) ?_
                  refine y_iconst hX 370 2 rfl (by decide) ?_
                  refine y_iconst hX 371 1 rfl (by decide) ?_
                  refine y_iload hX 372 rfl rfl ?_
                  refine y_bipush hX 373 13 rfl (by decide) ?_
                  refine y_iushr hX 374 rfl ?_
                  refine y_iconst hX 375 2 rfl (by decide) ?_
                  refine y_irem hX 376 rfl (fun x53 => ?_)
                  refine y_iadd hX 377 rfl ?_
                  refine y_iast hX 378 rfl ?_
                  refine y_dup hX 379 rfl (yc_D _) ?_
                  refine y_iconst hX 380 3 rfl (by decide) ?_
                  refine y_iload hX 381 rfl rfl ?_
                  refine y_bipush hX 382 15 rfl (by decide) ?_
                  refine y_iushr hX 383 rfl ?_
                  refine y_iconst hX 384 3 rfl (by decide) ?_
                  refine y_irem hX 385 rfl (fun x54 => ?_)
                  refine y_iast hX 386 rfl ?_
                  refine y_dup hX 387 rfl (yc_D _) ?_
                  refine y_iconst hX 388 4 rfl (by decide) ?_
                  refine y_iload hX 389 rfl rfl ?_
                  refine y_iast hX 390 rfl ?_
                  refine y_dup hX 391 rfl (yc_D _) ?_
                  refine y_iconst hX 392 5 rfl (by decide) ?_
                  refine y_iconst hX 393 0 rfl (by decide) ?_
                  refine y_iast hX 394 rfl ?_
                  refine y_dup hX 395 rfl (yc_D _) ?_
                  refine y_bipush hX 396 6 rfl (by decide) ?_
                  refine y_iload hX 397 rfl rfl ?_
                  refine y_iast hX 398 rfl ?_
                  refine y_iconst hX 399 0 rfl (by decide) ?_
                  refine y_newa hX 400 (t := 1) rfl zw_int rfl (by decide) (fun x55 => ?_)
                  refine y_calV hX y_gRo (y_hrVo hX 401 (t := 10) (As := [va_rf x52, va_rf x55]) (a := x3) rfl ycw_LRun_101 (fun p e => by cases e; exact km_LRun_adds (yk_G hX) p x52 x55) (by decide) ⟨rfl, rfl, rfl, by decide, by decide⟩ rfl (Nat.le_trans y_cn (by decide))) ?_
                  exact y_exit (fun w h => yj_goto hX 402 rfl (by decide) (yj_wk (ρ' := [some (va_rf p1), some (yi p2), none, some (va_rf x3), some (yi x28), some (yi s31), none, none, none, none]) (qw_s (qw_s (qw_n (qw_s (qw_s (qw_s (qw_n (qw_n (qw_n (qw_n (qw_0))))))))))) h))
                refine y_tout hX 159 605 rfl hx (by omega) (by decide) ?_
                refine y_aload_n hX 403 rfl rfl ?_
                refine y_bipush hX 404 7 rfl (by decide) ?_
                refine y_newa hX 405 (t := 1) rfl zw_int rfl (by decide) (fun x57 => ?_)
                refine y_dup hX 406 rfl (yc_D _) ?_
                refine y_iconst hX 407 0 rfl (by decide) ?_
                refine y_iconst hX 408 4 rfl (by decide) ?_
                refine y_iast hX 409 rfl ?_
                refine y_dup hX 410 rfl (yc_D _) ?_
                refine y_iconst hX 411 1 rfl (by decide) ?_
                refine y_iconst hX 412 0 rfl (by decide) ?_
                refine y_iast hX 413 rfl ?_
                refine y_dup hX 414 rfl (yc_D _) ?_
                refine y_iconst hX 415 2 rfl (by decide) ?_
                refine y_iconst hX 416 1 rfl (by decide) ?_
                refine y_iload hX 417 rfl rfl ?_
                refine y_bipush hX 418 13 rfl (by decide) ?_
                refine y_iushr hX 419 rfl ?_
                refine y_iconst hX 420 5 rfl (by decide) ?_
                refine y_irem hX 421 rfl (fun x58 => ?_)
                refine y_iadd hX 422 rfl ?_
                refine y_iast hX 423 rfl ?_
                refine y_dup hX 424 rfl (yc_D _) ?_
                refine y_iconst hX 425 3 rfl (by decide) ?_
                refine y_iconst hX 426 0 rfl (by decide) ?_
                refine y_iast hX 427 rfl ?_
                refine y_dup hX 428 rfl (yc_D _) ?_
                refine y_iconst hX 429 4 rfl (by decide) ?_
                refine y_iconst hX 430 0 rfl (by decide) ?_
                refine y_iast hX 431 rfl ?_
                refine y_dup hX 432 rfl (yc_D _) ?_
                refine y_iconst hX 433 5 rfl (by decide) ?_
                refine y_iconst hX 434 0 rfl (by decide) ?_
                refine y_iast hX 435 rfl ?_
                refine y_dup hX 436 rfl (yc_D _) ?_
                refine y_bipush hX 437 6 rfl (by decide) ?_
                refine y_iconst hX 438 0 rfl (by decide) ?_
                refine y_iast hX 439 rfl ?_
                refine y_iconst hX 440 0 rfl (by decide) ?_
                refine y_newa hX 441 (t := 1) rfl zw_int rfl (by decide) (fun x59 => ?_)
                refine y_calV hX y_gRo (y_hrVo hX 442 (t := 10) (As := [va_rf x57, va_rf x59]) (a := x3) rfl ycw_LRun_101 (fun p e => by cases e; exact km_LRun_adds (yk_G hX) p x57 x59) (by decide) ⟨rfl, rfl, rfl, by decide, by decide⟩ rfl (Nat.le_trans y_cn (by decide))) ?_
                exact y_exit (fun w h => yj_wk (ρ' := [some (va_rf p1), some (yi p2), none, some (va_rf x3), some (yi x28), some (yi s31), none, none, none, none]) (qw_s (qw_s (qw_n (qw_s (qw_s (qw_s (qw_n (qw_n (qw_n (qw_n (qw_0))))))))))) h)
              · intro s43
                refine y_iload hX 160 rfl rfl ?_
                refine y_bipush hX 161 20 rfl (by decide) ?_
                refine y_iushr hX 162 rfl ?_
                refine y_iconst hX 163 1 rfl (by decide) ?_
                refine y_iand hX 164 rfl ?_
                refine y_ifne hX 165 359 rfl (by decide) ?_ ?_
                ·
                  refine y_aload_n hX 215 rfl rfl ?_
                  refine y_bipush hX 216 7 rfl (by decide) ?_
                  refine y_newa hX 217 (t := 1) rfl zw_int rfl (by decide) (fun x61 => ?_)
                  refine y_dup hX 218 rfl (yc_D _) ?_
                  refine y_iconst hX 219 0 rfl (by decide) ?_
                  refine y_iconst hX 220 0 rfl (by decide) ?_
                  refine y_iast hX 221 rfl ?_
                  refine y_dup hX 222 rfl (yc_D _) ?_
                  refine y_iconst hX 223 1 rfl (by decide) ?_
                  refine y_iload hX 224 rfl rfl ?_
                  refine y_iast hX 225 rfl ?_
                  refine y_dup hX 226 rfl (yc_D _) ?_
                  refine y_iconst hX 227 2 rfl (by decide) ?_
                  refine y_iconst hX 228 1 rfl (by decide) ?_
                  refine y_iload hX 229 rfl rfl ?_
                  refine y_bipush hX 230 13 rfl (by decide) ?_
                  refine y_iushr hX 231 rfl ?_
                  refine y_iconst hX 232 3 rfl (by decide) ?_
                  refine y_irem hX 233 rfl (fun x62 => ?_)
                  refine y_iadd hX 234 rfl ?_
                  refine y_iast hX 235 rfl ?_
                  refine y_dup hX 236 rfl (yc_D _) ?_
                  refine y_iconst hX 237 3 rfl (by decide) ?_
                  refine y_iconst hX 238 0 rfl (by decide) ?_
                  refine y_iast hX 239 rfl ?_
                  refine y_dup hX 240 rfl (yc_D _) ?_
                  refine y_iconst hX 241 4 rfl (by decide) ?_
                  refine y_iload hX 242 rfl rfl ?_
                  refine y_iast hX 243 rfl ?_
                  refine y_dup hX 244 rfl (yc_D _) ?_
                  refine y_iconst hX 245 5 rfl (by decide) ?_
                  refine y_iconst hX 246 0 rfl (by decide) ?_
                  refine y_iast hX 247 rfl ?_
                  refine y_dup hX 248 rfl (yc_D _) ?_
                  refine y_bipush hX 249 6 rfl (by decide) ?_
                  refine y_iload hX 250 rfl rfl ?_
                  refine y_iast hX 251 rfl ?_
                  refine y_iconst hX 252 2 rfl (by decide) ?_
                  refine y_newa hX 253 (t := 1) rfl zw_int rfl (by decide) (fun x63 => ?_)
                  refine y_dup hX 254 rfl (yc_D _) ?_
                  refine y_iconst hX 255 0 rfl (by decide) ?_
                  refine y_iconst hX 256 1 rfl (by decide) ?_
                  refine y_iload hX 257 rfl rfl ?_
                  refine y_bipush hX 258 21 rfl (by decide) ?_
                  refine y_iushr hX 259 rfl ?_
                  refine y_iload hX 260 rfl rfl ?_
                  refine y_irem hX 261 rfl (fun x64 => ?_)
                  refine y_iadd hX 262 rfl ?_
                  refine y_iast hX 263 rfl ?_
                  refine y_dup hX 264 rfl (yc_D _) ?_
                  refine y_iconst hX 265 1 rfl (by decide) ?_
                  refine y_iconst hX 266 1 rfl (by decide) ?_
                  refine y_iload hX 267 rfl rfl ?_
                  refine y_bipush hX 268 23 rfl (by decide) ?_
                  refine y_iushr hX 269 rfl ?_
                  refine y_iconst hX 270 5 rfl (by decide) ?_
                  refine y_irem hX 271 rfl (fun x65 => ?_)
                  refine y_iadd hX 272 rfl ?_
                  refine y_iast hX 273 rfl ?_
                  refine y_calV hX y_gRo (y_hrVo hX 274 (t := 10) (As := [va_rf x61, va_rf x63]) (a := x3) rfl ycw_LRun_101 (fun p e => by cases e; exact km_LRun_adds (yk_G hX) p x61 x63) (by decide) ⟨rfl, rfl, rfl, by decide, by decide⟩ rfl (Nat.le_trans y_cn (by decide))) ?_
                  exact y_exit (fun w h => yj_goto hX 275 rfl (by decide) (yj_wk (ρ' := [some (va_rf p1), some (yi p2), none, some (va_rf x3), some (yi x28), some (yi s31), none, none, none, none]) (qw_s (qw_s (qw_n (qw_s (qw_s (qw_s (qw_n (qw_n (qw_n (qw_n (qw_0))))))))))) h))
                ·
                  refine y_aload_n hX 166 rfl rfl ?_
                  refine y_bipush hX 167 7 rfl (by decide) ?_
                  refine y_newa hX 168 (t := 1) rfl zw_int rfl (by decide) (fun x67 => ?_)
                  refine y_dup hX 169 rfl (yc_D _) ?_
                  refine y_iconst hX 170 0 rfl (by decide) ?_
                  refine y_iconst hX 171 0 rfl (by decide) ?_
                  refine y_iast hX 172 rfl ?_
                  refine y_dup hX 173 rfl (yc_D _) ?_
                  refine y_iconst hX 174 1 rfl (by decide) ?_
                  refine y_iload hX 175 rfl rfl ?_
                  refine y_iast hX 176 rfl ?_
                  refine y_dup hX 177 rfl (yc_D _) ?_
                  refine y_iconst hX 178 2 rfl (by decide) ?_
                  refine y_iconst hX 179 1 rfl (by decide) ?_
                  refine y_iload hX 180 rfl rfl ?_
                  refine y_bipush hX 181 13 rfl (by decide) ?_
                  refine y_iushr hX 182 rfl ?_
                  refine y_iconst hX 183 3 rfl (by decide) ?_
                  refine y_irem hX 184 rfl (fun x68 => ?_)
                  refine y_iadd hX 185 rfl ?_
                  refine y_iast hX 186 rfl ?_
                  refine y_dup hX 187 rfl (yc_D _) ?_
                  refine y_iconst hX 188 3 rfl (by decide) ?_
                  refine y_iconst hX 189 0 rfl (by decide) ?_
                  refine y_iast hX 190 rfl ?_
                  refine y_dup hX 191 rfl (yc_D _) ?_
                  refine y_iconst hX 192 4 rfl (by decide) ?_
                  refine y_iload hX 193 rfl rfl ?_
                  refine y_iast hX 194 rfl ?_
                  refine y_dup hX 195 rfl (yc_D _) ?_
                  refine y_iconst hX 196 5 rfl (by decide) ?_
                  refine y_iload hX 197 rfl rfl ?_
                  refine y_bipush hX 198 15 rfl (by decide) ?_
                  refine y_iushr hX 199 rfl ?_
                  refine y_bipush hX 200 7 rfl (by decide) ?_
                  refine y_iand hX 201 rfl ?_
                  refine y_join (S := Int) 343 (fun s69 => [some (va_rf p1), some (yi p2), none, some (va_rf x3), some (yi x28), some (yi s31), none, none, some (yi x38), none]) (fun s69 => [yi s69, yi (5 : Int), va_rf x67, va_rf x67, va_rf x3]) ?_ ?_
                  ·
                    refine y_ifne hX 202 342 rfl (by decide) ?_ ?_
                    ·
                      refine y_iconst hX 205 0 rfl (by decide) ?_
                      exact y_exit (fun w h => yj_wk (ρ' := [some (va_rf p1), some (yi p2), none, some (va_rf x3), some (yi x28), some (yi s31), none, none, some (yi x38), none]) (qw_s (qw_s (qw_n (qw_s (qw_s (qw_s (qw_n (qw_n (qw_s (qw_n (qw_0))))))))))) h)
                    ·
                      refine y_iconst hX 203 1 rfl (by decide) ?_
                      exact y_exit (fun w h => yj_goto hX 204 rfl (by decide) (yj_wk (ρ' := [some (va_rf p1), some (yi p2), none, some (va_rf x3), some (yi x28), some (yi s31), none, none, some (yi x38), none]) (qw_s (qw_s (qw_n (qw_s (qw_s (qw_s (qw_n (qw_n (qw_s (qw_n (qw_0))))))))))) h))
                  · intro s69
                    refine y_iast hX 206 rfl ?_
                    refine y_dup hX 207 rfl (yc_D _) ?_
                    refine y_bipush hX 208 6 rfl (by decide) ?_
                    refine y_iload hX 209 rfl rfl ?_
                    refine y_iast hX 210 rfl ?_
                    refine y_iconst hX 211 0 rfl (by decide) ?_
                    refine y_newa hX 212 (t := 1) rfl zw_int rfl (by decide) (fun x70 => ?_)
                    refine y_calV hX y_gRo (y_hrVo hX 213 (t := 10) (As := [va_rf x67, va_rf x70]) (a := x3) rfl ycw_LRun_101 (fun p e => by cases e; exact km_LRun_adds (yk_G hX) p x67 x70) (by decide) ⟨rfl, rfl, rfl, by decide, by decide⟩ rfl (Nat.le_trans y_cn (by decide))) ?_
                    exact y_exit (fun w h => yj_goto hX 214 rfl (by decide) (yj_wk (ρ' := [some (va_rf p1), some (yi p2), none, some (va_rf x3), some (yi x28), some (yi s31), none, none, none, none]) (qw_s (qw_s (qw_n (qw_s (qw_s (qw_s (qw_n (qw_n (qw_n (qw_n (qw_0))))))))))) h))
            · intro s42
              refine y_iinc hX 443 (fun x72 => [some (va_rf p1), some (yi p2), none, some (va_rf x3), some (yi x28), some (yi x72), none, none, none, none]) rfl (by decide) rfl (fun _ => rfl) (fun x72 => ?_)
              exact y_exit (fun w h => yj_goto hX 444 rfl (by decide) (yj_wk (ρ' := [some (va_rf p1), some (yi p2), none, some (va_rf x3), some (yi x28), some (yi x72), none, none, none, none]) (qw_s (qw_s (qw_n (qw_s (qw_s (qw_s (qw_n (qw_n (qw_n (qw_n (qw_0))))))))))) h))
    · intro s30
      refine y_aload_n hX 445 rfl rfl ?_
      exact y_aret hX 446 rfl hR (fun _ h => h)
theorem km_LRun_some {l : Launch} {G : qm_G} {Y : yY} (hG : yGG G Y) (p1 : Option Nat) (p2 : Int) (p3 : Int) : yMM (yQr G Y) l G Y jy_LRun_some prog_12_method_6_code 10 (some (.object "ColumnsLevelledLaw$Run")) 2 32 [va_rf p1, yi p2, yi p3] (kf_LRun_some Y p1 p2 p3) :=
  y_met (by decide +kernel) jd_LRun_some (fun v hv => by simp only [List.mem_cons, List.not_mem_nil, or_false] at hv; rcases hv with rfl | rfl | rfl <;> first | exact yc_D _ | rfl) (by exact Nat.le_of_ble_eq_true rfl) hG (fun X Fn r0 w0 hl hg hn hX hR => by subst hl; subst hg; exact kb_LRun_some hX ⟨⟨hR.1.1, hR.1.2, Or.inl ⟨_, rfl⟩⟩, hR.2⟩ p1 p2 p3)
