def jl_Law_law : List qm_I := [(0, .new 19, 3, 3), (3, .dup, 1, 4), (4, .invokespecial 99, 3, 7), (7, .astore_n 1, 1, 8), (8, .new 37, 3, 11), (11, .dup, 1, 12), (12, .invokespecial 100, 3, 15), (15, .astore_n 2, 1, 16), (16, .aconst_null, 1, 17), (17, .astore_n 3, 1, 18), (18, .aload_n 1, 1, 19), (19, .aload_n 2, 1, 20), (20, .invokestatic 101, 3, 23), (23, .ifCond .eq 88, 3, 26), (26, .aload_n 1, 1, 27), (27, .invokevirtual 107, 3, 30), (30, .iconst (-1), 1, 31), (31, .if_icmp .ne 80, 3, 34), (34, .aload_n 1, 1, 35), (35, .iconst 0, 1, 36), (36, .invokevirtual 110, 3, 39), (39, .bipush (-2), 2, 41), (41, .if_icmp .ne 70, 3, 44), (44, .aload_n 1, 1, 45), (45, .iconst 2, 1, 46), (46, .invokevirtual 113, 3, 49), (49, .iconst (-1), 1, 50), (50, .if_icmp .ne 61, 3, 53), (53, .aload_n 1, 1, 54), (54, .invokevirtual 116, 3, 57), (57, .ifCond .ne 54, 3, 60), (60, .aload_n 1, 1, 61), (61, .iconst 2, 1, 62), (62, .invokevirtual 119, 3, 65), (65, .bipush (-2), 2, 67), (67, .if_icmp .ne 44, 3, 70), (70, .aload_n 1, 1, 71), (71, .iconst (-1), 1, 72), (72, .iconst 0, 1, 73), (73, .invokevirtual 122, 3, 76), (76, .ifCond .ne 35, 3, 79), (79, .aload_n 1, 1, 80), (80, .iconst 0, 1, 81), (81, .invokevirtual 125, 3, 84), (84, .iconst (-1), 1, 85), (85, .if_icmp .ne 26, 3, 88), (88, .aload_n 1, 1, 89), (89, .iconst 0, 1, 90), (90, .invokevirtual 128, 3, 93), (93, .iconst (-1), 1, 94), (94, .if_icmp .ne 17, 3, 97), (97, .aload_n 1, 1, 98), (98, .iconst 0, 1, 99), (99, .iconst 0, 1, 100), (100, .invokevirtual 131, 3, 103), (103, .iconst (-1), 1, 104), (104, .if_icmp .ne 7, 3, 107), (107, .iconst 1, 1, 108), (108, .goto 4, 3, 111), (111, .iconst 0, 1, 112), (112, .istore 4, 2, 114), (114, .iconst 0, 1, 115), (115, .istore 5, 2, 117), (117, .iload 5, 2, 119), (119, .bipush 26, 2, 121), (121, .if_icmp .ge 1130, 3, 124), (124, .iload 4, 2, 126), (126, .ifCond .eq 1125, 3, 129), (129, .aload_n 0, 1, 130), (130, .iload 5, 2, 132), (132, .invokestatic 134, 3, 135), (135, .iconst 1, 1, 136), (136, .iushr, 1, 137), (137, .istore 6, 2, 139), (139, .aload_n 2, 1, 140), (140, .invokevirtual 138, 3, 143), (143, .astore 7, 2, 145), (145, .aload_n 2, 1, 146), (146, .getfield 36, 3, 149), (149, .ifCond .ne 7, 3, 152), (152, .iconst 0, 1, 153), (153, .goto 14, 3, 156), (156, .iload 6, 2, 158), (158, .iconst 4, 1, 159), (159, .iushr, 1, 160), (160, .aload_n 2, 1, 161), (161, .getfield 36, 3, 164), (164, .iconst 1, 1, 165), (165, .iadd, 1, 166), (166, .irem, 1, 167), (167, .istore 8, 2, 169), (169, .iload 8, 2, 171), (171, .aload_n 2, 1, 172), (172, .getfield 36, 3, 175), (175, .if_icmp .ge 7, 3, 178), (178, .iconst 1, 1, 179), (179, .goto 4, 3, 182), (182, .iconst 0, 1, 183), (183, .istore 9, 2, 185), (185, .iload 9, 2, 187), (187, .ifCond .eq 20, 3, 190), (190, .aload_n 2, 1, 191), (191, .getfield 52, 3, 194), (194, .iload 8, 2, 196), (196, .aaload, 1, 197), (197, .iconst 0, 1, 198), (198, .iaload, 1, 199), (199, .iconst 4, 1, 200), (200, .if_icmp .eq 7, 3, 203), (203, .iconst 1, 1, 204), (204, .goto 4, 3, 207), (207, .iconst 0, 1, 208), (208, .istore 10, 2, 210), (210, .iconst 1, 1, 211), (211, .istore 11, 2, 213), (213, .iconst 0, 1, 214), (214, .istore 12, 2, 216), (216, .iload 5, 2, 218), (218, .ifCond .ne 7, 3, 221), (221, .iconst 0, 1, 222), (222, .goto 8, 3, 225), (225, .iload 6, 2, 227), (227, .bipush 10, 2, 229), (229, .irem, 1, 230), (230, .tableswitch 846 0 8 #[50, 50, 116, 116, 266, 367, 483, 624, 737], 50, 280), (280, .aload_n 0, 1, 281), (281, .bipush 40, 2, 283), (283, .bipush 20, 2, 285), (285, .iload 5, 2, 287), (287, .imul, 1, 288), (288, .iadd, 1, 289), (289, .bipush 6, 2, 291), (291, .invokestatic 142, 3, 294), (294, .astore_n 2, 1, 295), (295, .iconst 1, 1, 296), (296, .istore 12, 2, 298), (298, .aload_n 1, 1, 299), (299, .aload_n 2, 1, 300), (300, .invokevirtual 146, 3, 303), (303, .invokestatic 150, 3, 306), (306, .ifCond .eq 34, 3, 309), (309, .aload_n 1, 1, 310), (310, .invokevirtual 154, 3, 313), (313, .aload_n 2, 1, 314), (314, .invokevirtual 157, 3, 317), (317, .if_icmp .ne 23, 3, 320), (320, .aload_n 1, 1, 321), (321, .iconst 4, 1, 322), (322, .invokevirtual 33, 3, 325), (325, .ifCond .ne 15, 3, 328), (328, .aload_n 1, 1, 329), (329, .iconst 5, 1, 330), (330, .invokevirtual 33, 3, 333), (333, .ifCond .ne 7, 3, 336), (336, .iconst 1, 1, 337), (337, .goto 4, 3, 340), (340, .iconst 0, 1, 341), (341, .istore 4, 2, 343), (343, .goto 809, 3, 346), (346, .iload 6, 2, 348), (348, .bipush 8, 2, 350), (350, .iushr, 1, 351), (351, .bipush 8, 2, 353), (353, .irem, 1, 354), (354, .istore 13, 2, 356), (356, .iload 13, 2, 358), (358, .iconst 1, 1, 359), (359, .if_icmp .ne 17, 3, 362), (362, .bipush 10, 2, 364), (364, .iload 6, 2, 366), (366, .bipush 12, 2, 368), (368, .iushr, 1, 369), (369, .bipush 50, 2, 371), (371, .irem, 1, 372), (372, .iadd, 1, 373), (373, .goto 12, 3, 376), (376, .iconst 1, 1, 377), (377, .iload 6, 2, 379), (379, .bipush 12, 2, 381), (381, .iushr, 1, 382), (382, .iconst 3, 1, 383), (383, .irem, 1, 384), (384, .iadd, 1, 385), (385, .istore 14, 2, 387), (387, .aload_n 2, 1, 388), (388, .getfield 48, 3, 391), (391, .iload 13, 2, 393), (393, .iaload, 1, 394), (394, .iload 14, 2, 396), (396, .if_icmp .eq 7, 3, 399), (399, .iconst 1, 1, 400), (400, .goto 4, 3, 403), (403, .iconst 0, 1, 404), (404, .istore 11, 2, 406), (406, .aload_n 1, 1, 407), (407, .iload 13, 2, 409), (409, .iload 14, 2, 411), (411, .invokevirtual 159, 3, 414), (414, .iload 11, 2, 416), (416, .ifCond .eq 13, 3, 419), (419, .aload_n 2, 1, 420), (420, .getfield 48, 3, 423), (423, .iload 13, 2, 425), (425, .iaload, 1, 426), (426, .goto 5, 3, 429), (429, .bipush (-2), 2, 431), (431, .if_icmp .ne 50, 3, 434), (434, .aload_n 1, 1, 435), (435, .bipush 8, 2, 437), (437, .iconst 1, 1, 438), (438, .invokevirtual 159, 3, 441), (441, .iconst (-1), 1, 442), (442, .if_icmp .ne 39, 3, 445), (445, .aload_n 1, 1, 446), (446, .iconst 0, 1, 447), (447, .bipush 6, 2, 449), (449, .invokevirtual 159, 3, 452), (452, .iconst (-1), 1, 453), (453, .if_icmp .ne 28, 3, 456), (456, .aload_n 1, 1, 457), (457, .iconst 1, 1, 458), (458, .bipush 9, 2, 460), (460, .invokevirtual 159, 3, 463), (463, .iconst (-1), 1, 464), (464, .if_icmp .ne 17, 3, 467), (467, .aload_n 1, 1, 468), (468, .iconst 5, 1, 469), (469, .iconst 4, 1, 470), (470, .invokevirtual 159, 3, 473), (473, .iconst (-1), 1, 474), (474, .if_icmp .ne 7, 3, 477), (477, .iconst 1, 1, 478), (478, .goto 4, 3, 481), (481, .iconst 0, 1, 482), (482, .istore 4, 2, 484), (484, .aload_n 2, 1, 485), (485, .getfield 48, 3, 488), (488, .iload 13, 2, 490), (490, .iload 14, 2, 492), (492, .iastore, 1, 493), (493, .goto 659, 3, 496), (496, .iload 6, 2, 498), (498, .bipush 12, 2, 500), (500, .iushr, 1, 501), (501, .iconst 1, 1, 502), (502, .iand, 1, 503), (503, .istore 13, 2, 505), (505, .iload 10, 2, 507), (507, .ifCond .eq 21, 3, 510), (510, .aload_n 2, 1, 511), (511, .getfield 52, 3, 514), (514, .iload 8, 2, 516), (516, .aaload, 1, 517), (517, .iconst 4, 1, 518), (518, .iaload, 1, 519), (519, .iload 13, 2, 521), (521, .if_icmp .eq 7, 3, 524), (524, .iconst 1, 1, 525), (525, .goto 4, 3, 528), (528, .iconst 0, 1, 529), (529, .istore 11, 2, 531), (531, .aload_n 1, 1, 532), (532, .iload 8, 2, 534), (534, .iload 13, 2, 536), (536, .iconst 1, 1, 537), (537, .if_icmp .ne 7, 3, 540), (540, .iconst 1, 1, 541), (541, .goto 4, 3, 544), (544, .iconst 0, 1, 545), (545, .invokevirtual 161, 3, 548), (548, .iload 10, 2, 550), (550, .ifCond .ne 7, 3, 553), (553, .iconst (-1), 1, 554), (554, .goto 14, 3, 557), (557, .iload 11, 2, 559), (559, .ifCond .eq 7, 3, 562), (562, .iconst 1, 1, 563), (563, .goto 5, 3, 566), (566, .bipush (-2), 2, 568), (568, .if_icmp .ne 7, 3, 571), (571, .iconst 1, 1, 572), (572, .goto 4, 3, 575), (575, .iconst 0, 1, 576), (576, .istore 4, 2, 578), (578, .iload 11, 2, 580), (580, .ifCond .eq 572, 3, 583), (583, .aload_n 2, 1, 584), (584, .getfield 52, 3, 587), (587, .iload 8, 2, 589), (589, .aaload, 1, 590), (590, .iconst 4, 1, 591), (591, .iload 13, 2, 593), (593, .iastore, 1, 594), (594, .goto 558, 3, 597), (597, .iload 6, 2, 599), (599, .bipush 12, 2, 601), (601, .iushr, 1, 602), (602, .bipush 9, 2, 604), (604, .irem, 1, 605), (605, .istore 13, 2, 607), (607, .iload 10, 2, 609), (609, .ifCond .eq 22, 3, 612), (612, .aload_n 2, 1, 613), (613, .getfield 52, 3, 616), (616, .iload 8, 2, 618), (618, .aaload, 1, 619), (619, .bipush 6, 2, 621), (621, .iaload, 1, 622), (622, .iload 13, 2, 624), (624, .if_icmp .eq 7, 3, 627), (627, .iconst 1, 1, 628), (628, .goto 4, 3, 631), (631, .iconst 0, 1, 632), (632, .istore 11, 2, 634), (634, .aload_n 1, 1, 635), (635, .iload 8, 2, 637), (637, .iload 13, 2, 639), (639, .invokevirtual 165, 3, 642), (642, .iload 10, 2, 644), (644, .ifCond .ne 7, 3, 647), (647, .iconst (-1), 1, 648), (648, .goto 23, 3, 651), (651, .iload 11, 2, 653), (653, .ifCond .eq 16, 3, 656), (656, .aload_n 2, 1, 657), (657, .getfield 52, 3, 660), (660, .iload 8, 2, 662), (662, .aaload, 1, 663), (663, .bipush 6, 2, 665), (665, .iaload, 1, 666), (666, .goto 5, 3, 669), (669, .bipush (-2), 2, 671), (671, .if_icmp .ne 19, 3, 674), (674, .aload_n 1, 1, 675), (675, .iload 8, 2, 677), (677, .bipush 31, 2, 679), (679, .invokevirtual 165, 3, 682), (682, .iconst (-1), 1, 683), (683, .if_icmp .ne 7, 3, 686), (686, .iconst 1, 1, 687), (687, .goto 4, 3, 690), (690, .iconst 0, 1, 691), (691, .istore 4, 2, 693), (693, .iload 11, 2, 695), (695, .ifCond .eq 457, 3, 698), (698, .aload_n 2, 1, 699), (699, .getfield 52, 3, 702), (702, .iload 8, 2, 704), (704, .aaload, 1, 705), (705, .bipush 6, 2, 707), (707, .iload 13, 2, 709), (709, .iastore, 1, 710), (710, .goto 442, 3, 713), (713, .iload 6, 2, 715), (715, .bipush 12, 2, 717), (717, .iushr, 1, 718), (718, .bipush 7, 2, 720), (720, .irem, 1, 721), (721, .istore 13, 2, 723), (723, .iload 9, 2, 725), (725, .ifCond .eq 23, 3, 728), (728, .iload 13, 2, 730), (730, .aload_n 2, 1, 731), (731, .getfield 36, 3, 734), (734, .if_icmp .ge 14, 3, 737), (737, .iload 13, 2, 739), (739, .iload 8, 2, 741), (741, .if_icmp .eq 7, 3, 744), (744, .iconst 1, 1, 745), (745, .goto 4, 3, 748), (748, .iconst 0, 1, 749), (749, .istore 11, 2, 751), (751, .aload_n 1, 1, 752), (752, .iload 8, 2, 754), (754, .iload 13, 2, 756), (756, .invokevirtual 131, 3, 759), (759, .iload 11, 2, 761), (761, .ifCond .eq 7, 3, 764), (764, .iconst 1, 1, 765), (765, .goto 4, 3, 768), (768, .iconst (-1), 1, 769), (769, .if_icmp .ne 7, 3, 772), (772, .iconst 1, 1, 773), (773, .goto 4, 3, 776), (776, .iconst 0, 1, 777), (777, .istore 4, 2, 779), (779, .iload 11, 2, 781), (781, .ifCond .ne 6, 3, 784), (784, .goto 368, 3, 787), (787, .aload_n 2, 1, 788), (788, .getfield 52, 3, 791), (791, .iload 8, 2, 793), (793, .aaload, 1, 794), (794, .astore 14, 2, 796), (796, .aload_n 2, 1, 797), (797, .getfield 59, 3, 800), (800, .iload 8, 2, 802), (802, .aaload, 1, 803), (803, .astore 15, 2, 805), (805, .aload_n 2, 1, 806), (806, .getfield 52, 3, 809), (809, .iload 8, 2, 811), (811, .aload_n 2, 1, 812), (812, .getfield 52, 3, 815), (815, .iload 13, 2, 817), (817, .aaload, 1, 818), (818, .aastore, 1, 819), (819, .aload_n 2, 1, 820), (820, .getfield 59, 3, 823), (823, .iload 8, 2, 825), (825, .aload_n 2, 1, 826), (826, .getfield 59, 3, 829), (829, .iload 13, 2, 831), (831, .aaload, 1, 832), (832, .aastore, 1, 833), (833, .aload_n 2, 1, 834), (834, .getfield 52, 3, 837), (837, .iload 13, 2, 839), (839, .aload 14, 2, 841), (841, .aastore, 1, 842), (842, .aload_n 2, 1, 843), (843, .getfield 59, 3, 846), (846, .iload 13, 2, 848), (848, .aload 15, 2, 850), (850, .aastore, 1, 851), (851, .goto 301, 3, 854), (854, .iload 9, 2, 856), (856, .ifCond .eq 35, 3, 859), (859, .aload_n 2, 1, 860), (860, .getfield 36, 3, 863), (863, .bipush 16, 2, 865), (865, .if_icmp .ge 26, 3, 868), (868, .aload_n 2, 1, 869), (869, .invokevirtual 157, 3, 872), (872, .aload_n 2, 1, 873), (873, .getfield 52, 3, 876), (876, .iload 8, 2, 878), (878, .aaload, 1, 879), (879, .iconst 1, 1, 880), (880, .iaload, 1, 881), (881, .iadd, 1, 882), (882, .bipush 90, 2, 884), (884, .if_icmp .gt 7, 3, 887), (887, .iconst 1, 1, 888), (888, .goto 4, 3, 891), (891, .iconst 0, 1, 892), (892, .istore 11, 2, 894), (894, .aload_n 1, 1, 895), (895, .iload 8, 2, 897), (897, .invokevirtual 128, 3, 900), (900, .iload 9, 2, 902), (902, .ifCond .ne 7, 3, 905), (905, .iconst (-1), 1, 906), (906, .goto 19, 3, 909), (909, .iload 11, 2, 911), (911, .ifCond .eq 12, 3, 914), (914, .aload_n 2, 1, 915), (915, .getfield 36, 3, 918), (918, .iconst 1, 1, 919), (919, .iadd, 1, 920), (920, .goto 5, 3, 923), (923, .bipush (-2), 2, 925), (925, .if_icmp .ne 7, 3, 928), (928, .iconst 1, 1, 929), (929, .goto 4, 3, 932), (932, .iconst 0, 1, 933), (933, .istore 4, 2, 935), (935, .iload 11, 2, 937), (937, .ifCond .eq 215, 3, 940), (940, .aload_n 2, 1, 941), (941, .aload_n 2, 1, 942), (942, .getfield 52, 3, 945), (945, .iload 8, 2, 947), (947, .aaload, 1, 948), (948, .invokevirtual 167, 3, 951), (951, .checkcast 168, 3, 954), (954, .aload_n 2, 1, 955), (955, .getfield 59, 3, 958), (958, .iload 8, 2, 960), (960, .aaload, 1, 961), (961, .invokevirtual 172, 3, 964), (964, .goto 188, 3, 967), (967, .iload 9, 2, 969), (969, .istore 11, 2, 971), (971, .aload_n 1, 1, 972), (972, .iload 8, 2, 974), (974, .invokevirtual 176, 3, 977), (977, .iload 9, 2, 979), (979, .ifCond .eq 12, 3, 982), (982, .aload_n 2, 1, 983), (983, .getfield 36, 3, 986), (986, .iconst 1, 1, 987), (987, .isub, 1, 988), (988, .goto 4, 3, 991), (991, .iconst (-1), 1, 992), (992, .if_icmp .ne 7, 3, 995), (995, .iconst 1, 1, 996), (996, .goto 4, 3, 999), (999, .iconst 0, 1, 1000), (1000, .istore 4, 2, 1002), (1002, .iload 9, 2, 1004), (1004, .ifCond .ne 6, 3, 1007), (1007, .goto 145, 3, 1010), (1010, .iload 8, 2, 1012), (1012, .istore 13, 2, 1014), (1014, .iload 13, 2, 1016), (1016, .iconst 1, 1, 1017), (1017, .iadd, 1, 1018), (1018, .aload_n 2, 1, 1019), (1019, .getfield 36, 3, 1022), (1022, .if_icmp .ge 41, 3, 1025), (1025, .aload_n 2, 1, 1026), (1026, .getfield 52, 3, 1029), (1029, .iload 13, 2, 1031), (1031, .aload_n 2, 1, 1032), (1032, .getfield 52, 3, 1035), (1035, .iload 13, 2, 1037), (1037, .iconst 1, 1, 1038), (1038, .iadd, 1, 1039), (1039, .aaload, 1, 1040), (1040, .aastore, 1, 1041), (1041, .aload_n 2, 1, 1042), (1042, .getfield 59, 3, 1045), (1045, .iload 13, 2, 1047), (1047, .aload_n 2, 1, 1048), (1048, .getfield 59, 3, 1051), (1051, .iload 13, 2, 1053), (1053, .iconst 1, 1, 1054), (1054, .iadd, 1, 1055), (1055, .aaload, 1, 1056), (1056, .aastore, 1, 1057), (1057, .iinc 13 1, 3, 1060), (1060, .goto (-46), 3, 1063), (1063, .aload_n 2, 1, 1064), (1064, .dup, 1, 1065), (1065, .getfield 36, 3, 1068), (1068, .iconst 1, 1, 1069), (1069, .isub, 1, 1070), (1070, .putfield 36, 3, 1073), (1073, .goto 79, 3, 1076), (1076, .iconst 0, 1, 1077), (1077, .istore 11, 2, 1079), (1079, .iload 6, 2, 1081), (1081, .bipush 8, 2, 1083), (1083, .iushr, 1, 1084), (1084, .iconst 1, 1, 1085), (1085, .iand, 1, 1086), (1086, .ifCond .eq 7, 3, 1089), (1089, .aload_n 3, 1, 1090), (1090, .ifnonnull 30, 3, 1093), (1093, .aload_n 1, 1, 1094), (1094, .iconst 0, 1, 1095), (1095, .invokevirtual 113, 3, 1098), (1098, .aload_n 2, 1, 1099), (1099, .getfield 36, 3, 1102), (1102, .if_icmp .ne 7, 3, 1105), (1105, .iconst 1, 1, 1106), (1106, .goto 4, 3, 1109), (1109, .iconst 0, 1, 1110), (1110, .istore 4, 2, 1112), (1112, .aload_n 2, 1, 1113), (1113, .invokevirtual 138, 3, 1116), (1116, .astore_n 3, 1, 1117), (1117, .goto 35, 3, 1120), (1120, .aload_n 1, 1, 1121), (1121, .iconst 0, 1, 1122), (1122, .invokevirtual 110, 3, 1125), (1125, .aload_n 3, 1, 1126), (1126, .getfield 36, 3, 1129), (1129, .if_icmp .ne 15, 3, 1132), (1132, .aload_n 1, 1, 1133), (1133, .iconst 4, 1, 1134), (1134, .invokevirtual 33, 3, 1137), (1137, .ifCond .ne 7, 3, 1140), (1140, .iconst 1, 1, 1141), (1141, .goto 4, 3, 1144), (1144, .iconst 0, 1, 1145), (1145, .istore 4, 2, 1147), (1147, .aload_n 3, 1, 1148), (1148, .invokevirtual 138, 3, 1151), (1151, .astore_n 2, 1, 1152), (1152, .iload 4, 2, 1154), (1154, .ifCond .eq 15, 3, 1157), (1157, .aload_n 1, 1, 1158), (1158, .aload_n 2, 1, 1159), (1159, .invokestatic 101, 3, 1162), (1162, .ifCond .eq 7, 3, 1165), (1165, .iconst 1, 1, 1166), (1166, .goto 4, 3, 1169), (1169, .iconst 0, 1, 1170), (1170, .istore 4, 2, 1172), (1172, .iload 11, 2, 1174), (1174, .ifCond .eq 71, 3, 1177), (1177, .iload 12, 2, 1179), (1179, .ifCond .ne 66, 3, 1182), (1182, .iload 4, 2, 1184), (1184, .ifCond .eq 61, 3, 1187), (1187, .iload 6, 2, 1189), (1189, .bipush 26, 2, 1191), (1191, .iushr, 1, 1192), (1192, .iconst 3, 1, 1193), (1193, .iand, 1, 1194), (1194, .ifCond .ne 51, 3, 1197), (1197, .aload_n 1, 1, 1198), (1198, .iconst 4, 1, 1199), (1199, .invokevirtual 33, 3, 1202), (1202, .istore 13, 2, 1204), (1204, .aload_n 1, 1, 1205), (1205, .invokevirtual 107, 3, 1208), (1208, .iload 13, 2, 1210), (1210, .iconst 1, 1, 1211), (1211, .isub, 1, 1212), (1212, .if_icmp .ne 7, 3, 1215), (1215, .iconst 1, 1, 1216), (1216, .goto 4, 3, 1219), (1219, .iconst 0, 1, 1220), (1220, .istore 4, 2, 1222), (1222, .aload 7, 2, 1224), (1224, .astore_n 2, 1, 1225), (1225, .iload 4, 2, 1227), (1227, .ifCond .eq 15, 3, 1230), (1230, .aload_n 1, 1, 1231), (1231, .aload_n 2, 1, 1232), (1232, .invokestatic 101, 3, 1235), (1235, .ifCond .eq 7, 3, 1238), (1238, .iconst 1, 1, 1239), (1239, .goto 4, 3, 1242), (1242, .iconst 0, 1, 1243), (1243, .istore 4, 2, 1245), (1245, .iinc 5 1, 3, 1248), (1248, .goto (-1131), 3, 1251), (1251, .iload 4, 2, 1253), (1253, .ireturn, 1, 1254)]
theorem y_D_app {b : ByteArray} : ∀ {l1 l2 : List qm_I}, qm_D b l1 → qm_D b l2 → qm_D b (l1 ++ l2)
  | [], _, _, h2 => h2
  | a :: l1, l2, h1, h2 => fun k q hq => by
    cases k with
    | zero => exact h1 0 q hq
    | succ k => exact y_D_app (fun k q h => h1 (k + 1) q h) h2 k q hq
def jl_Law_law_0 : List qm_I := [(0, .new 19, 3, 3), (3, .dup, 1, 4), (4, .invokespecial 99, 3, 7), (7, .astore_n 1, 1, 8), (8, .new 37, 3, 11), (11, .dup, 1, 12), (12, .invokespecial 100, 3, 15), (15, .astore_n 2, 1, 16), (16, .aconst_null, 1, 17), (17, .astore_n 3, 1, 18), (18, .aload_n 1, 1, 19), (19, .aload_n 2, 1, 20), (20, .invokestatic 101, 3, 23), (23, .ifCond .eq 88, 3, 26), (26, .aload_n 1, 1, 27), (27, .invokevirtual 107, 3, 30), (30, .iconst (-1), 1, 31), (31, .if_icmp .ne 80, 3, 34), (34, .aload_n 1, 1, 35), (35, .iconst 0, 1, 36), (36, .invokevirtual 110, 3, 39), (39, .bipush (-2), 2, 41), (41, .if_icmp .ne 70, 3, 44), (44, .aload_n 1, 1, 45), (45, .iconst 2, 1, 46), (46, .invokevirtual 113, 3, 49), (49, .iconst (-1), 1, 50), (50, .if_icmp .ne 61, 3, 53), (53, .aload_n 1, 1, 54), (54, .invokevirtual 116, 3, 57), (57, .ifCond .ne 54, 3, 60), (60, .aload_n 1, 1, 61), (61, .iconst 2, 1, 62), (62, .invokevirtual 119, 3, 65), (65, .bipush (-2), 2, 67), (67, .if_icmp .ne 44, 3, 70), (70, .aload_n 1, 1, 71), (71, .iconst (-1), 1, 72), (72, .iconst 0, 1, 73), (73, .invokevirtual 122, 3, 76), (76, .ifCond .ne 35, 3, 79), (79, .aload_n 1, 1, 80), (80, .iconst 0, 1, 81), (81, .invokevirtual 125, 3, 84), (84, .iconst (-1), 1, 85), (85, .if_icmp .ne 26, 3, 88), (88, .aload_n 1, 1, 89), (89, .iconst 0, 1, 90), (90, .invokevirtual 128, 3, 93), (93, .iconst (-1), 1, 94), (94, .if_icmp .ne 17, 3, 97), (97, .aload_n 1, 1, 98), (98, .iconst 0, 1, 99), (99, .iconst 0, 1, 100), (100, .invokevirtual 131, 3, 103), (103, .iconst (-1), 1, 104), (104, .if_icmp .ne 7, 3, 107), (107, .iconst 1, 1, 108), (108, .goto 4, 3, 111), (111, .iconst 0, 1, 112), (112, .istore 4, 2, 114), (114, .iconst 0, 1, 115), (115, .istore 5, 2, 117), (117, .iload 5, 2, 119), (119, .bipush 26, 2, 121), (121, .if_icmp .ge 1130, 3, 124), (124, .iload 4, 2, 126), (126, .ifCond .eq 1125, 3, 129), (129, .aload_n 0, 1, 130), (130, .iload 5, 2, 132), (132, .invokestatic 134, 3, 135), (135, .iconst 1, 1, 136), (136, .iushr, 1, 137), (137, .istore 6, 2, 139), (139, .aload_n 2, 1, 140), (140, .invokevirtual 138, 3, 143), (143, .astore 7, 2, 145), (145, .aload_n 2, 1, 146), (146, .getfield 36, 3, 149), (149, .ifCond .ne 7, 3, 152), (152, .iconst 0, 1, 153), (153, .goto 14, 3, 156), (156, .iload 6, 2, 158), (158, .iconst 4, 1, 159), (159, .iushr, 1, 160), (160, .aload_n 2, 1, 161), (161, .getfield 36, 3, 164), (164, .iconst 1, 1, 165), (165, .iadd, 1, 166), (166, .irem, 1, 167), (167, .istore 8, 2, 169), (169, .iload 8, 2, 171), (171, .aload_n 2, 1, 172), (172, .getfield 36, 3, 175), (175, .if_icmp .ge 7, 3, 178), (178, .iconst 1, 1, 179), (179, .goto 4, 3, 182), (182, .iconst 0, 1, 183), (183, .istore 9, 2, 185), (185, .iload 9, 2, 187)]
theorem jd_Law_law_0 : qm_D code jl_Law_law_0 := qm_D_of (by decide +kernel)
def jl_Law_law_1 : List qm_I := [(187, .ifCond .eq 20, 3, 190), (190, .aload_n 2, 1, 191), (191, .getfield 52, 3, 194), (194, .iload 8, 2, 196), (196, .aaload, 1, 197), (197, .iconst 0, 1, 198), (198, .iaload, 1, 199), (199, .iconst 4, 1, 200), (200, .if_icmp .eq 7, 3, 203), (203, .iconst 1, 1, 204), (204, .goto 4, 3, 207), (207, .iconst 0, 1, 208), (208, .istore 10, 2, 210), (210, .iconst 1, 1, 211), (211, .istore 11, 2, 213), (213, .iconst 0, 1, 214), (214, .istore 12, 2, 216), (216, .iload 5, 2, 218), (218, .ifCond .ne 7, 3, 221), (221, .iconst 0, 1, 222), (222, .goto 8, 3, 225), (225, .iload 6, 2, 227), (227, .bipush 10, 2, 229), (229, .irem, 1, 230), (230, .tableswitch 846 0 8 #[50, 50, 116, 116, 266, 367, 483, 624, 737], 50, 280), (280, .aload_n 0, 1, 281), (281, .bipush 40, 2, 283), (283, .bipush 20, 2, 285), (285, .iload 5, 2, 287), (287, .imul, 1, 288), (288, .iadd, 1, 289), (289, .bipush 6, 2, 291), (291, .invokestatic 142, 3, 294), (294, .astore_n 2, 1, 295), (295, .iconst 1, 1, 296), (296, .istore 12, 2, 298), (298, .aload_n 1, 1, 299), (299, .aload_n 2, 1, 300), (300, .invokevirtual 146, 3, 303), (303, .invokestatic 150, 3, 306), (306, .ifCond .eq 34, 3, 309), (309, .aload_n 1, 1, 310), (310, .invokevirtual 154, 3, 313), (313, .aload_n 2, 1, 314), (314, .invokevirtual 157, 3, 317), (317, .if_icmp .ne 23, 3, 320), (320, .aload_n 1, 1, 321), (321, .iconst 4, 1, 322), (322, .invokevirtual 33, 3, 325), (325, .ifCond .ne 15, 3, 328), (328, .aload_n 1, 1, 329), (329, .iconst 5, 1, 330), (330, .invokevirtual 33, 3, 333), (333, .ifCond .ne 7, 3, 336), (336, .iconst 1, 1, 337), (337, .goto 4, 3, 340), (340, .iconst 0, 1, 341), (341, .istore 4, 2, 343), (343, .goto 809, 3, 346), (346, .iload 6, 2, 348), (348, .bipush 8, 2, 350), (350, .iushr, 1, 351), (351, .bipush 8, 2, 353), (353, .irem, 1, 354), (354, .istore 13, 2, 356), (356, .iload 13, 2, 358), (358, .iconst 1, 1, 359), (359, .if_icmp .ne 17, 3, 362), (362, .bipush 10, 2, 364), (364, .iload 6, 2, 366), (366, .bipush 12, 2, 368), (368, .iushr, 1, 369), (369, .bipush 50, 2, 371), (371, .irem, 1, 372), (372, .iadd, 1, 373), (373, .goto 12, 3, 376), (376, .iconst 1, 1, 377), (377, .iload 6, 2, 379), (379, .bipush 12, 2, 381), (381, .iushr, 1, 382), (382, .iconst 3, 1, 383), (383, .irem, 1, 384), (384, .iadd, 1, 385), (385, .istore 14, 2, 387), (387, .aload_n 2, 1, 388), (388, .getfield 48, 3, 391), (391, .iload 13, 2, 393), (393, .iaload, 1, 394), (394, .iload 14, 2, 396), (396, .if_icmp .eq 7, 3, 399), (399, .iconst 1, 1, 400), (400, .goto 4, 3, 403), (403, .iconst 0, 1, 404), (404, .istore 11, 2, 406), (406, .aload_n 1, 1, 407), (407, .iload 13, 2, 409), (409, .iload 14, 2, 411), (411, .invokevirtual 159, 3, 414), (414, .iload 11, 2, 416), (416, .ifCond .eq 13, 3, 419)]
theorem jd_Law_law_1 : qm_D code jl_Law_law_1 := qm_D_of (by decide +kernel)
def jl_Law_law_2 : List qm_I := [(419, .aload_n 2, 1, 420), (420, .getfield 48, 3, 423), (423, .iload 13, 2, 425), (425, .iaload, 1, 426), (426, .goto 5, 3, 429), (429, .bipush (-2), 2, 431), (431, .if_icmp .ne 50, 3, 434), (434, .aload_n 1, 1, 435), (435, .bipush 8, 2, 437), (437, .iconst 1, 1, 438), (438, .invokevirtual 159, 3, 441), (441, .iconst (-1), 1, 442), (442, .if_icmp .ne 39, 3, 445), (445, .aload_n 1, 1, 446), (446, .iconst 0, 1, 447), (447, .bipush 6, 2, 449), (449, .invokevirtual 159, 3, 452), (452, .iconst (-1), 1, 453), (453, .if_icmp .ne 28, 3, 456), (456, .aload_n 1, 1, 457), (457, .iconst 1, 1, 458), (458, .bipush 9, 2, 460), (460, .invokevirtual 159, 3, 463), (463, .iconst (-1), 1, 464), (464, .if_icmp .ne 17, 3, 467), (467, .aload_n 1, 1, 468), (468, .iconst 5, 1, 469), (469, .iconst 4, 1, 470), (470, .invokevirtual 159, 3, 473), (473, .iconst (-1), 1, 474), (474, .if_icmp .ne 7, 3, 477), (477, .iconst 1, 1, 478), (478, .goto 4, 3, 481), (481, .iconst 0, 1, 482), (482, .istore 4, 2, 484), (484, .aload_n 2, 1, 485), (485, .getfield 48, 3, 488), (488, .iload 13, 2, 490), (490, .iload 14, 2, 492), (492, .iastore, 1, 493), (493, .goto 659, 3, 496), (496, .iload 6, 2, 498), (498, .bipush 12, 2, 500), (500, .iushr, 1, 501), (501, .iconst 1, 1, 502), (502, .iand, 1, 503), (503, .istore 13, 2, 505), (505, .iload 10, 2, 507), (507, .ifCond .eq 21, 3, 510), (510, .aload_n 2, 1, 511), (511, .getfield 52, 3, 514), (514, .iload 8, 2, 516), (516, .aaload, 1, 517), (517, .iconst 4, 1, 518), (518, .iaload, 1, 519), (519, .iload 13, 2, 521), (521, .if_icmp .eq 7, 3, 524), (524, .iconst 1, 1, 525), (525, .goto 4, 3, 528), (528, .iconst 0, 1, 529), (529, .istore 11, 2, 531), (531, .aload_n 1, 1, 532), (532, .iload 8, 2, 534), (534, .iload 13, 2, 536), (536, .iconst 1, 1, 537), (537, .if_icmp .ne 7, 3, 540), (540, .iconst 1, 1, 541), (541, .goto 4, 3, 544), (544, .iconst 0, 1, 545), (545, .invokevirtual 161, 3, 548), (548, .iload 10, 2, 550), (550, .ifCond .ne 7, 3, 553), (553, .iconst (-1), 1, 554), (554, .goto 14, 3, 557), (557, .iload 11, 2, 559), (559, .ifCond .eq 7, 3, 562), (562, .iconst 1, 1, 563), (563, .goto 5, 3, 566), (566, .bipush (-2), 2, 568), (568, .if_icmp .ne 7, 3, 571), (571, .iconst 1, 1, 572), (572, .goto 4, 3, 575), (575, .iconst 0, 1, 576), (576, .istore 4, 2, 578), (578, .iload 11, 2, 580), (580, .ifCond .eq 572, 3, 583), (583, .aload_n 2, 1, 584), (584, .getfield 52, 3, 587), (587, .iload 8, 2, 589), (589, .aaload, 1, 590), (590, .iconst 4, 1, 591), (591, .iload 13, 2, 593), (593, .iastore, 1, 594), (594, .goto 558, 3, 597), (597, .iload 6, 2, 599), (599, .bipush 12, 2, 601), (601, .iushr, 1, 602), (602, .bipush 9, 2, 604), (604, .irem, 1, 605), (605, .istore 13, 2, 607)]
theorem jd_Law_law_2 : qm_D code jl_Law_law_2 := qm_D_of (by decide +kernel)
def jl_Law_law_3 : List qm_I := [(607, .iload 10, 2, 609), (609, .ifCond .eq 22, 3, 612), (612, .aload_n 2, 1, 613), (613, .getfield 52, 3, 616), (616, .iload 8, 2, 618), (618, .aaload, 1, 619), (619, .bipush 6, 2, 621), (621, .iaload, 1, 622), (622, .iload 13, 2, 624), (624, .if_icmp .eq 7, 3, 627), (627, .iconst 1, 1, 628), (628, .goto 4, 3, 631), (631, .iconst 0, 1, 632), (632, .istore 11, 2, 634), (634, .aload_n 1, 1, 635), (635, .iload 8, 2, 637), (637, .iload 13, 2, 639), (639, .invokevirtual 165, 3, 642), (642, .iload 10, 2, 644), (644, .ifCond .ne 7, 3, 647), (647, .iconst (-1), 1, 648), (648, .goto 23, 3, 651), (651, .iload 11, 2, 653), (653, .ifCond .eq 16, 3, 656), (656, .aload_n 2, 1, 657), (657, .getfield 52, 3, 660), (660, .iload 8, 2, 662), (662, .aaload, 1, 663), (663, .bipush 6, 2, 665), (665, .iaload, 1, 666), (666, .goto 5, 3, 669), (669, .bipush (-2), 2, 671), (671, .if_icmp .ne 19, 3, 674), (674, .aload_n 1, 1, 675), (675, .iload 8, 2, 677), (677, .bipush 31, 2, 679), (679, .invokevirtual 165, 3, 682), (682, .iconst (-1), 1, 683), (683, .if_icmp .ne 7, 3, 686), (686, .iconst 1, 1, 687), (687, .goto 4, 3, 690), (690, .iconst 0, 1, 691), (691, .istore 4, 2, 693), (693, .iload 11, 2, 695), (695, .ifCond .eq 457, 3, 698), (698, .aload_n 2, 1, 699), (699, .getfield 52, 3, 702), (702, .iload 8, 2, 704), (704, .aaload, 1, 705), (705, .bipush 6, 2, 707), (707, .iload 13, 2, 709), (709, .iastore, 1, 710), (710, .goto 442, 3, 713), (713, .iload 6, 2, 715), (715, .bipush 12, 2, 717), (717, .iushr, 1, 718), (718, .bipush 7, 2, 720), (720, .irem, 1, 721), (721, .istore 13, 2, 723), (723, .iload 9, 2, 725), (725, .ifCond .eq 23, 3, 728), (728, .iload 13, 2, 730), (730, .aload_n 2, 1, 731), (731, .getfield 36, 3, 734), (734, .if_icmp .ge 14, 3, 737), (737, .iload 13, 2, 739), (739, .iload 8, 2, 741), (741, .if_icmp .eq 7, 3, 744), (744, .iconst 1, 1, 745), (745, .goto 4, 3, 748), (748, .iconst 0, 1, 749), (749, .istore 11, 2, 751), (751, .aload_n 1, 1, 752), (752, .iload 8, 2, 754), (754, .iload 13, 2, 756), (756, .invokevirtual 131, 3, 759), (759, .iload 11, 2, 761), (761, .ifCond .eq 7, 3, 764), (764, .iconst 1, 1, 765), (765, .goto 4, 3, 768), (768, .iconst (-1), 1, 769), (769, .if_icmp .ne 7, 3, 772), (772, .iconst 1, 1, 773), (773, .goto 4, 3, 776), (776, .iconst 0, 1, 777), (777, .istore 4, 2, 779), (779, .iload 11, 2, 781), (781, .ifCond .ne 6, 3, 784), (784, .goto 368, 3, 787), (787, .aload_n 2, 1, 788), (788, .getfield 52, 3, 791), (791, .iload 8, 2, 793), (793, .aaload, 1, 794), (794, .astore 14, 2, 796), (796, .aload_n 2, 1, 797), (797, .getfield 59, 3, 800), (800, .iload 8, 2, 802), (802, .aaload, 1, 803), (803, .astore 15, 2, 805), (805, .aload_n 2, 1, 806)]
theorem jd_Law_law_3 : qm_D code jl_Law_law_3 := qm_D_of (by decide +kernel)
def jl_Law_law_4 : List qm_I := [(806, .getfield 52, 3, 809), (809, .iload 8, 2, 811), (811, .aload_n 2, 1, 812), (812, .getfield 52, 3, 815), (815, .iload 13, 2, 817), (817, .aaload, 1, 818), (818, .aastore, 1, 819), (819, .aload_n 2, 1, 820), (820, .getfield 59, 3, 823), (823, .iload 8, 2, 825), (825, .aload_n 2, 1, 826), (826, .getfield 59, 3, 829), (829, .iload 13, 2, 831), (831, .aaload, 1, 832), (832, .aastore, 1, 833), (833, .aload_n 2, 1, 834), (834, .getfield 52, 3, 837), (837, .iload 13, 2, 839), (839, .aload 14, 2, 841), (841, .aastore, 1, 842), (842, .aload_n 2, 1, 843), (843, .getfield 59, 3, 846), (846, .iload 13, 2, 848), (848, .aload 15, 2, 850), (850, .aastore, 1, 851), (851, .goto 301, 3, 854), (854, .iload 9, 2, 856), (856, .ifCond .eq 35, 3, 859), (859, .aload_n 2, 1, 860), (860, .getfield 36, 3, 863), (863, .bipush 16, 2, 865), (865, .if_icmp .ge 26, 3, 868), (868, .aload_n 2, 1, 869), (869, .invokevirtual 157, 3, 872), (872, .aload_n 2, 1, 873), (873, .getfield 52, 3, 876), (876, .iload 8, 2, 878), (878, .aaload, 1, 879), (879, .iconst 1, 1, 880), (880, .iaload, 1, 881), (881, .iadd, 1, 882), (882, .bipush 90, 2, 884), (884, .if_icmp .gt 7, 3, 887), (887, .iconst 1, 1, 888), (888, .goto 4, 3, 891), (891, .iconst 0, 1, 892), (892, .istore 11, 2, 894), (894, .aload_n 1, 1, 895), (895, .iload 8, 2, 897), (897, .invokevirtual 128, 3, 900), (900, .iload 9, 2, 902), (902, .ifCond .ne 7, 3, 905), (905, .iconst (-1), 1, 906), (906, .goto 19, 3, 909), (909, .iload 11, 2, 911), (911, .ifCond .eq 12, 3, 914), (914, .aload_n 2, 1, 915), (915, .getfield 36, 3, 918), (918, .iconst 1, 1, 919), (919, .iadd, 1, 920), (920, .goto 5, 3, 923), (923, .bipush (-2), 2, 925), (925, .if_icmp .ne 7, 3, 928), (928, .iconst 1, 1, 929), (929, .goto 4, 3, 932), (932, .iconst 0, 1, 933), (933, .istore 4, 2, 935), (935, .iload 11, 2, 937), (937, .ifCond .eq 215, 3, 940), (940, .aload_n 2, 1, 941), (941, .aload_n 2, 1, 942), (942, .getfield 52, 3, 945), (945, .iload 8, 2, 947), (947, .aaload, 1, 948), (948, .invokevirtual 167, 3, 951), (951, .checkcast 168, 3, 954), (954, .aload_n 2, 1, 955), (955, .getfield 59, 3, 958), (958, .iload 8, 2, 960), (960, .aaload, 1, 961), (961, .invokevirtual 172, 3, 964), (964, .goto 188, 3, 967), (967, .iload 9, 2, 969), (969, .istore 11, 2, 971), (971, .aload_n 1, 1, 972), (972, .iload 8, 2, 974), (974, .invokevirtual 176, 3, 977), (977, .iload 9, 2, 979), (979, .ifCond .eq 12, 3, 982), (982, .aload_n 2, 1, 983), (983, .getfield 36, 3, 986), (986, .iconst 1, 1, 987), (987, .isub, 1, 988), (988, .goto 4, 3, 991), (991, .iconst (-1), 1, 992), (992, .if_icmp .ne 7, 3, 995), (995, .iconst 1, 1, 996), (996, .goto 4, 3, 999), (999, .iconst 0, 1, 1000), (1000, .istore 4, 2, 1002)]
theorem jd_Law_law_4 : qm_D code jl_Law_law_4 := qm_D_of (by decide +kernel)
def jl_Law_law_5 : List qm_I := [(1002, .iload 9, 2, 1004), (1004, .ifCond .ne 6, 3, 1007), (1007, .goto 145, 3, 1010), (1010, .iload 8, 2, 1012), (1012, .istore 13, 2, 1014), (1014, .iload 13, 2, 1016), (1016, .iconst 1, 1, 1017), (1017, .iadd, 1, 1018), (1018, .aload_n 2, 1, 1019), (1019, .getfield 36, 3, 1022), (1022, .if_icmp .ge 41, 3, 1025), (1025, .aload_n 2, 1, 1026), (1026, .getfield 52, 3, 1029), (1029, .iload 13, 2, 1031), (1031, .aload_n 2, 1, 1032), (1032, .getfield 52, 3, 1035), (1035, .iload 13, 2, 1037), (1037, .iconst 1, 1, 1038), (1038, .iadd, 1, 1039), (1039, .aaload, 1, 1040), (1040, .aastore, 1, 1041), (1041, .aload_n 2, 1, 1042), (1042, .getfield 59, 3, 1045), (1045, .iload 13, 2, 1047), (1047, .aload_n 2, 1, 1048), (1048, .getfield 59, 3, 1051), (1051, .iload 13, 2, 1053), (1053, .iconst 1, 1, 1054), (1054, .iadd, 1, 1055), (1055, .aaload, 1, 1056), (1056, .aastore, 1, 1057), (1057, .iinc 13 1, 3, 1060), (1060, .goto (-46), 3, 1063), (1063, .aload_n 2, 1, 1064), (1064, .dup, 1, 1065), (1065, .getfield 36, 3, 1068), (1068, .iconst 1, 1, 1069), (1069, .isub, 1, 1070), (1070, .putfield 36, 3, 1073), (1073, .goto 79, 3, 1076), (1076, .iconst 0, 1, 1077), (1077, .istore 11, 2, 1079), (1079, .iload 6, 2, 1081), (1081, .bipush 8, 2, 1083), (1083, .iushr, 1, 1084), (1084, .iconst 1, 1, 1085), (1085, .iand, 1, 1086), (1086, .ifCond .eq 7, 3, 1089), (1089, .aload_n 3, 1, 1090), (1090, .ifnonnull 30, 3, 1093), (1093, .aload_n 1, 1, 1094), (1094, .iconst 0, 1, 1095), (1095, .invokevirtual 113, 3, 1098), (1098, .aload_n 2, 1, 1099), (1099, .getfield 36, 3, 1102), (1102, .if_icmp .ne 7, 3, 1105), (1105, .iconst 1, 1, 1106), (1106, .goto 4, 3, 1109), (1109, .iconst 0, 1, 1110), (1110, .istore 4, 2, 1112), (1112, .aload_n 2, 1, 1113), (1113, .invokevirtual 138, 3, 1116), (1116, .astore_n 3, 1, 1117), (1117, .goto 35, 3, 1120), (1120, .aload_n 1, 1, 1121), (1121, .iconst 0, 1, 1122), (1122, .invokevirtual 110, 3, 1125), (1125, .aload_n 3, 1, 1126), (1126, .getfield 36, 3, 1129), (1129, .if_icmp .ne 15, 3, 1132), (1132, .aload_n 1, 1, 1133), (1133, .iconst 4, 1, 1134), (1134, .invokevirtual 33, 3, 1137), (1137, .ifCond .ne 7, 3, 1140), (1140, .iconst 1, 1, 1141), (1141, .goto 4, 3, 1144), (1144, .iconst 0, 1, 1145), (1145, .istore 4, 2, 1147), (1147, .aload_n 3, 1, 1148), (1148, .invokevirtual 138, 3, 1151), (1151, .astore_n 2, 1, 1152), (1152, .iload 4, 2, 1154), (1154, .ifCond .eq 15, 3, 1157), (1157, .aload_n 1, 1, 1158), (1158, .aload_n 2, 1, 1159), (1159, .invokestatic 101, 3, 1162), (1162, .ifCond .eq 7, 3, 1165), (1165, .iconst 1, 1, 1166), (1166, .goto 4, 3, 1169), (1169, .iconst 0, 1, 1170), (1170, .istore 4, 2, 1172), (1172, .iload 11, 2, 1174), (1174, .ifCond .eq 71, 3, 1177), (1177, .iload 12, 2, 1179), (1179, .ifCond .ne 66, 3, 1182), (1182, .iload 4, 2, 1184), (1184, .ifCond .eq 61, 3, 1187), (1187, .iload 6, 2, 1189), (1189, .bipush 26, 2, 1191), (1191, .iushr, 1, 1192)]
theorem jd_Law_law_5 : qm_D code jl_Law_law_5 := qm_D_of (by decide +kernel)
def jl_Law_law_6 : List qm_I := [(1192, .iconst 3, 1, 1193), (1193, .iand, 1, 1194), (1194, .ifCond .ne 51, 3, 1197), (1197, .aload_n 1, 1, 1198), (1198, .iconst 4, 1, 1199), (1199, .invokevirtual 33, 3, 1202), (1202, .istore 13, 2, 1204), (1204, .aload_n 1, 1, 1205), (1205, .invokevirtual 107, 3, 1208), (1208, .iload 13, 2, 1210), (1210, .iconst 1, 1, 1211), (1211, .isub, 1, 1212), (1212, .if_icmp .ne 7, 3, 1215), (1215, .iconst 1, 1, 1216), (1216, .goto 4, 3, 1219), (1219, .iconst 0, 1, 1220), (1220, .istore 4, 2, 1222), (1222, .aload 7, 2, 1224), (1224, .astore_n 2, 1, 1225), (1225, .iload 4, 2, 1227), (1227, .ifCond .eq 15, 3, 1230), (1230, .aload_n 1, 1, 1231), (1231, .aload_n 2, 1, 1232), (1232, .invokestatic 101, 3, 1235), (1235, .ifCond .eq 7, 3, 1238), (1238, .iconst 1, 1, 1239), (1239, .goto 4, 3, 1242), (1242, .iconst 0, 1, 1243), (1243, .istore 4, 2, 1245), (1245, .iinc 5 1, 3, 1248), (1248, .goto (-1131), 3, 1251), (1251, .iload 4, 2, 1253), (1253, .ireturn, 1, 1254)]
theorem jd_Law_law_6 : qm_D code jl_Law_law_6 := qm_D_of (by decide +kernel)
set_option maxRecDepth 100000 in
theorem jd_Law_law : qm_D code jl_Law_law := (y_D_app jd_Law_law_0 (y_D_app jd_Law_law_1 (y_D_app jd_Law_law_2 (y_D_app jd_Law_law_3 (y_D_app jd_Law_law_4 (y_D_app jd_Law_law_5 (jd_Law_law_6)))))) : qm_D code (jl_Law_law_0 ++ (jl_Law_law_1 ++ (jl_Law_law_2 ++ (jl_Law_law_3 ++ (jl_Law_law_4 ++ (jl_Law_law_5 ++ (jl_Law_law_6))))))))
noncomputable def kf_Law_law (Y : yY) (p1 : Option Nat) : yM Int :=
  yB (yNo 20) fun x1 =>
  yB (yKr 20 x1 (kf_LRun_init Y x1)) fun _ =>
  yB (yP x1) fun x3 =>
  yB (yP none) fun x4 =>
  yB (yK (kf_Law_same Y x3)) fun x5 =>
  yB (α := Int) (
    yB (α := (Unit ⊕ Int)) (
      yB (yR x5) fun _ =>
      if x5 = 0 then
        yP (Sum.inl ())
      else
        yB (yC ([] : List Int) (iz_Top_undo 0)) fun x8 =>
        yB (yR2 x8 (-1 : Int)) fun _ =>
        if ¬ x8 = (-1 : Int) then
          yP (Sum.inl ())
        else
          yB (yC ([(0 : Int)] : List Int) (iz_Top_back 0 (0 : Int))) fun x9 =>
          yB (yR2 x9 (-2 : Int)) fun _ =>
          if ¬ x9 = (-2 : Int) then
            yP (Sum.inl ())
          else
            yB (yC ([(2 : Int)] : List Int) (iz_Top_keep 0 (2 : Int))) fun x10 =>
            yB (yR2 x10 (-1 : Int)) fun _ =>
            if ¬ x10 = (-1 : Int) then
              yP (Sum.inl ())
            else
              yB (yC ([] : List Int) (iz_Top_pour 0)) fun x11 =>
              yB (yR x11) fun _ =>
              if ¬ x11 = 0 then
                yP (Sum.inl ())
              else
                yB (yC ([(2 : Int)] : List Int) (iz_Top_loose 0 (2 : Int))) fun x12 =>
                yB (yR2 x12 (-2 : Int)) fun _ =>
                if ¬ x12 = (-2 : Int) then
                  yP (Sum.inl ())
                else
                  yB (yC ([(-1 : Int), (0 : Int)] : List Int) (iz_Top_column 0 (-1 : Int) (0 : Int))) fun x13 =>
                  yB (yR x13) fun _ =>
                  if ¬ x13 = 0 then
                    yP (Sum.inl ())
                  else
                    yB (yC ([(0 : Int)] : List Int) (iz_Top_least 0 (0 : Int))) fun x14 =>
                    yB (yR2 x14 (-1 : Int)) fun _ =>
                    if ¬ x14 = (-1 : Int) then
                      yP (Sum.inl ())
                    else
                      yB (yC ([(0 : Int)] : List Int) (iz_Top_again 0 (0 : Int))) fun x15 =>
                      yB (yR2 x15 (-1 : Int)) fun _ =>
                      if ¬ x15 = (-1 : Int) then
                        yP (Sum.inl ())
                      else
                        yB (yC ([(0 : Int), (0 : Int)] : List Int) (iz_Top_swap 0 (0 : Int) (0 : Int))) fun x16 =>
                        yB (yR2 x16 (-1 : Int)) fun _ =>
                        if ¬ x16 = (-1 : Int) then
                          yP (Sum.inl ())
                        else
                          yP (Sum.inr (1 : Int))) (Sum.elim (fun s7 =>
      yP (0 : Int)) yP)) fun s6 =>
  yB (yP s6) fun x17 =>
  yB (yP (0 : Int)) fun x18 =>
  yB (α := Int) (
    yLp (S := Option Nat × Option Nat × Int × Int) (α := Int) (fun s20 =>
      yB (yR2 s20.2.2.2 (26 : Int)) fun _ =>
      if (26 : Int) ≤ s20.2.2.2 then
        yP (Sum.inr s20.2.2.1)
      else
        yB (yR s20.2.2.1) fun _ =>
        if s20.2.2.1 = 0 then
          yP (Sum.inr s20.2.2.1)
        else
          yB (yK (kf_Law_cell Y p1 s20.2.2.2)) fun x21 =>
          yB (yP (ybUshr x21 (1 : Int))) fun x22 =>
          yB (yKr 20 s20.1 (kf_LRun_copy Y s20.1)) fun x23 =>
          yB (yP x23) fun x24 =>
          yB (yGt 20 s20.1 1) fun x25 =>
          yB (α := Int) (
            yB (yR x25) fun _ =>
            if ¬ x25 = 0 then
              yB (yGt 20 s20.1 1) fun x27 =>
              yB (yRm (ybUshr x22 (4 : Int)) (x27 + (1 : Int))) fun x28 =>
              yP x28
            else
              yP (0 : Int)) fun s26 =>
          yB (yP s26) fun x29 =>
          yB (yGt 20 s20.1 1) fun x30 =>
          yB (α := Int) (
            yB (yR2 x29 x30) fun _ =>
            if x30 ≤ x29 then
              yP (0 : Int)
            else
              yP (1 : Int)) fun s31 =>
          yB (yP s31) fun x32 =>
          yB (α := Int) (
            yB (α := (Unit ⊕ Int)) (
              yB (yR x32) fun _ =>
              if x32 = 0 then
                yP (Sum.inl ())
              else
                yB (yGr 20 s20.1 2) fun x35 =>
                yB (yLr 4 x35 x29) fun x36 =>
                yB (yLd 1 x36 (0 : Int)) fun x37 =>
                yB (yR2 x37 (4 : Int)) fun _ =>
                if x37 = (4 : Int) then
                  yP (Sum.inl ())
                else
                  yP (Sum.inr (1 : Int))) (Sum.elim (fun s34 =>
              yP (0 : Int)) yP)) fun s33 =>
          yB (yP s33) fun x38 =>
          yB (yP (1 : Int)) fun x39 =>
          yB (yP (0 : Int)) fun x40 =>
          yB (α := Int) (
            yB (yR s20.2.2.2) fun _ =>
            if ¬ s20.2.2.2 = 0 then
              yB (yRm x22 (10 : Int)) fun x42 =>
              yP x42
            else
              yP (0 : Int)) fun s41 =>
          yB (α := Option Nat × Option Nat × Int × Int × Int) (
            yB (α := (Unit ⊕ (Option Nat × Option Nat × Int × Int × Int))) (
              yB (α := (Unit ⊕ (Unit ⊕ (Option Nat × Option Nat × Int × Int × Int)))) (
                yB (yR s41) fun _ =>
                if s41 = 0 then
                  yP (Sum.inl ())
                else
                if s41 = 1 then
                  yP (Sum.inl ())
                else
                if s41 = 2 then
                  yP (Sum.inr (Sum.inl ()))
                else
                if s41 = 3 then
                  yP (Sum.inr (Sum.inl ()))
                else
                if s41 = 4 then
                  yB (yP (ybAnd (ybUshr x22 (12 : Int)) (1 : Int))) fun x46 =>
                  yB (α := Int) (
                    yB (α := (Unit ⊕ Int)) (
                      yB (yR x38) fun _ =>
                      if x38 = 0 then
                        yP (Sum.inl ())
                      else
                        yB (yGr 20 s20.1 2) fun x49 =>
                        yB (yLr 4 x49 x29) fun x50 =>
                        yB (yLd 1 x50 (4 : Int)) fun x51 =>
                        yB (yR2 x51 x46) fun _ =>
                        if x51 = x46 then
                          yP (Sum.inl ())
                        else
                          yP (Sum.inr (1 : Int))) (Sum.elim (fun s48 =>
                      yP (0 : Int)) yP)) fun s47 =>
                  yB (yP s47) fun x52 =>
                  yB (α := Int) (
                    yB (yR2 x46 (1 : Int)) fun _ =>
                    if ¬ x46 = (1 : Int) then
                      yP (0 : Int)
                    else
                      yP (1 : Int)) fun s53 =>
                  yB (yC ([x29, s53] : List Int) (iz_Top_tie 0 x29 s53)) fun x54 =>
                  yB (α := Int) (
                    yB (yR x38) fun _ =>
                    if ¬ x38 = 0 then
                      yB (yR x52) fun _ =>
                      if x52 = 0 then
                        yP (-2 : Int)
                      else
                        yP (1 : Int)
                    else
                      yP (-1 : Int)) fun s55 =>
                  yB (α := Int) (
                    yB (yR2 x54 s55) fun _ =>
                    if ¬ x54 = s55 then
                      yP (0 : Int)
                    else
                      yP (1 : Int)) fun s56 =>
                  yB (yP s56) fun x57 =>
                  yB (yR x52) fun _ =>
                  if x52 = 0 then
                    yP (Sum.inr (Sum.inr (s20.1, s20.2.1, x57, x52, x40)))
                  else
                    yB (yGr 20 s20.1 2) fun x58 =>
                    yB (yLr 4 x58 x29) fun x59 =>
                    yB (ySt x59 (4 : Int) x46) fun _ =>
                    yP (Sum.inr (Sum.inr (s20.1, s20.2.1, x57, x52, x40)))
                else
                if s41 = 5 then
                  yB (yRm (ybUshr x22 (12 : Int)) (9 : Int)) fun x60 =>
                  yB (yP x60) fun x61 =>
                  yB (α := Int) (
                    yB (α := (Unit ⊕ Int)) (
                      yB (yR x38) fun _ =>
                      if x38 = 0 then
                        yP (Sum.inl ())
                      else
                        yB (yGr 20 s20.1 2) fun x64 =>
                        yB (yLr 4 x64 x29) fun x65 =>
                        yB (yLd 1 x65 (6 : Int)) fun x66 =>
                        yB (yR2 x66 x61) fun _ =>
                        if x66 = x61 then
                          yP (Sum.inl ())
                        else
                          yP (Sum.inr (1 : Int))) (Sum.elim (fun s63 =>
                      yP (0 : Int)) yP)) fun s62 =>
                  yB (yP s62) fun x67 =>
                  yB (yC ([x29, x61] : List Int) (iz_Top_space 0 x29 x61)) fun x68 =>
                  yB (α := Int) (
                    yB (yR x38) fun _ =>
                    if ¬ x38 = 0 then
                      yB (yR x67) fun _ =>
                      if x67 = 0 then
                        yP (-2 : Int)
                      else
                        yB (yGr 20 s20.1 2) fun x70 =>
                        yB (yLr 4 x70 x29) fun x71 =>
                        yB (yLd 1 x71 (6 : Int)) fun x72 =>
                        yP x72
                    else
                      yP (-1 : Int)) fun s69 =>
                  yB (α := Int) (
                    yB (α := (Unit ⊕ Int)) (
                      yB (yR2 x68 s69) fun _ =>
                      if ¬ x68 = s69 then
                        yP (Sum.inl ())
                      else
                        yB (yC ([x29, (31 : Int)] : List Int) (iz_Top_space 0 x29 (31 : Int))) fun x75 =>
                        yB (yR2 x75 (-1 : Int)) fun _ =>
                        if ¬ x75 = (-1 : Int) then
                          yP (Sum.inl ())
                        else
                          yP (Sum.inr (1 : Int))) (Sum.elim (fun s74 =>
                      yP (0 : Int)) yP)) fun s73 =>
                  yB (yP s73) fun x76 =>
                  yB (yR x67) fun _ =>
                  if x67 = 0 then
                    yP (Sum.inr (Sum.inr (s20.1, s20.2.1, x76, x67, x40)))
                  else
                    yB (yGr 20 s20.1 2) fun x77 =>
                    yB (yLr 4 x77 x29) fun x78 =>
                    yB (ySt x78 (6 : Int) x61) fun _ =>
                    yP (Sum.inr (Sum.inr (s20.1, s20.2.1, x76, x67, x40)))
                else
                if s41 = 6 then
                  yB (yRm (ybUshr x22 (12 : Int)) (7 : Int)) fun x79 =>
                  yB (yP x79) fun x80 =>
                  yB (α := Int) (
                    yB (α := (Unit ⊕ Int)) (
                      yB (yR x32) fun _ =>
                      if x32 = 0 then
                        yP (Sum.inl ())
                      else
                        yB (yGt 20 s20.1 1) fun x83 =>
                        yB (yR2 x80 x83) fun _ =>
                        if x83 ≤ x80 then
                          yP (Sum.inl ())
                        else
                          yB (yR2 x80 x29) fun _ =>
                          if x80 = x29 then
                            yP (Sum.inl ())
                          else
                            yP (Sum.inr (1 : Int))) (Sum.elim (fun s82 =>
                      yP (0 : Int)) yP)) fun s81 =>
                  yB (yP s81) fun x84 =>
                  yB (yC ([x29, x80] : List Int) (iz_Top_swap 0 x29 x80)) fun x85 =>
                  yB (α := Int) (
                    yB (yR x84) fun _ =>
                    if x84 = 0 then
                      yP (-1 : Int)
                    else
                      yP (1 : Int)) fun s86 =>
                  yB (α := Int) (
                    yB (yR2 x85 s86) fun _ =>
                    if ¬ x85 = s86 then
                      yP (0 : Int)
                    else
                      yP (1 : Int)) fun s87 =>
                  yB (yP s87) fun x88 =>
                  yB (yR x84) fun _ =>
                  if ¬ x84 = 0 then
                    yB (yGr 20 s20.1 2) fun x89 =>
                    yB (yLr 4 x89 x29) fun x90 =>
                    yB (yP x90) fun x91 =>
                    yB (yGr 20 s20.1 3) fun x92 =>
                    yB (yLr 4 x92 x29) fun x93 =>
                    yB (yP x93) fun x94 =>
                    yB (yGr 20 s20.1 2) fun x95 =>
                    yB (yGr 20 s20.1 2) fun x96 =>
                    yB (yLr 4 x96 x80) fun x97 =>
                    yB (ySr 4 1 x95 x29 x97) fun _ =>
                    yB (yGr 20 s20.1 3) fun x98 =>
                    yB (yGr 20 s20.1 3) fun x99 =>
                    yB (yLr 4 x99 x80) fun x100 =>
                    yB (ySr 4 1 x98 x29 x100) fun _ =>
                    yB (yGr 20 s20.1 2) fun x101 =>
                    yB (ySr 4 1 x101 x80 x91) fun _ =>
                    yB (yGr 20 s20.1 3) fun x102 =>
                    yB (ySr 4 1 x102 x80 x94) fun _ =>
                    yP (Sum.inr (Sum.inr (s20.1, s20.2.1, x88, x84, x40)))
                  else
                    yP (Sum.inr (Sum.inr (s20.1, s20.2.1, x88, x84, x40)))
                else
                if s41 = 7 then
                  yB (α := Int) (
                    yB (α := (Unit ⊕ Int)) (
                      yB (yR x32) fun _ =>
                      if x32 = 0 then
                        yP (Sum.inl ())
                      else
                        yB (yGt 20 s20.1 1) fun x105 =>
                        yB (yR2 x105 (16 : Int)) fun _ =>
                        if (16 : Int) ≤ x105 then
                          yP (Sum.inl ())
                        else
                          yB (yKr 20 s20.1 (kf_LRun_pieces Y s20.1)) fun x106 =>
                          yB (yGr 20 s20.1 2) fun x107 =>
                          yB (yLr 4 x107 x29) fun x108 =>
                          yB (yLd 1 x108 (1 : Int)) fun x109 =>
                          yB (yR2 (x106 + x109) (90 : Int)) fun _ =>
                          if (90 : Int) < (x106 + x109) then
                            yP (Sum.inl ())
                          else
                            yP (Sum.inr (1 : Int))) (Sum.elim (fun s104 =>
                      yP (0 : Int)) yP)) fun s103 =>
                  yB (yP s103) fun x110 =>
                  yB (yC ([x29] : List Int) (iz_Top_again 0 x29)) fun x111 =>
                  yB (α := Int) (
                    yB (yR x32) fun _ =>
                    if ¬ x32 = 0 then
                      yB (yR x110) fun _ =>
                      if x110 = 0 then
                        yP (-2 : Int)
                      else
                        yB (yGt 20 s20.1 1) fun x113 =>
                        yP (x113 + (1 : Int))
                    else
                      yP (-1 : Int)) fun s112 =>
                  yB (α := Int) (
                    yB (yR2 x111 s112) fun _ =>
                    if ¬ x111 = s112 then
                      yP (0 : Int)
                    else
                      yP (1 : Int)) fun s114 =>
                  yB (yP s114) fun x115 =>
                  yB (yR x110) fun _ =>
                  if x110 = 0 then
                    yP (Sum.inr (Sum.inr (s20.1, s20.2.1, x115, x110, x40)))
                  else
                    yB (yGr 20 s20.1 2) fun x116 =>
                    yB (yLr 4 x116 x29) fun x117 =>
                    yB (yCl x117) fun x118 =>
                    yB (yKd 1 x118) fun _ =>
                    yB (yGr 20 s20.1 3) fun x119 =>
                    yB (yLr 4 x119 x29) fun x120 =>
                    yB (yKr 20 s20.1 (kf_LRun_adds Y s20.1 x118 x120)) fun _ =>
                    yP (Sum.inr (Sum.inr (s20.1, s20.2.1, x115, x110, x40)))
                else
                if s41 = 8 then
                  yB (yP x32) fun x122 =>
                  yB (yC ([x29] : List Int) (iz_Top_drop 0 x29)) fun x123 =>
                  yB (α := Int) (
                    yB (yR x32) fun _ =>
                    if x32 = 0 then
                      yP (-1 : Int)
                    else
                      yB (yGt 20 s20.1 1) fun x125 =>
                      yP (x125 - (1 : Int))) fun s124 =>
                  yB (α := Int) (
                    yB (yR2 x123 s124) fun _ =>
                    if ¬ x123 = s124 then
                      yP (0 : Int)
                    else
                      yP (1 : Int)) fun s126 =>
                  yB (yP s126) fun x127 =>
                  yB (yR x32) fun _ =>
                  if ¬ x32 = 0 then
                    yB (yP x29) fun x128 =>
                    yB (α := Unit) (
                      yLp (S := Int) (α := Unit) (fun s130 =>
                        yB (yGt 20 s20.1 1) fun x131 =>
                        yB (yR2 (s130 + (1 : Int)) x131) fun _ =>
                        if x131 ≤ (s130 + (1 : Int)) then
                          yP (Sum.inr ())
                        else
                          yB (yGr 20 s20.1 2) fun x132 =>
                          yB (yGr 20 s20.1 2) fun x133 =>
                          yB (yLr 4 x133 (s130 + (1 : Int))) fun x134 =>
                          yB (ySr 4 1 x132 s130 x134) fun _ =>
                          yB (yGr 20 s20.1 3) fun x135 =>
                          yB (yGr 20 s20.1 3) fun x136 =>
                          yB (yLr 4 x136 (s130 + (1 : Int))) fun x137 =>
                          yB (ySr 4 1 x135 s130 x137) fun _ =>
                          yB (yP (s130 + 1)) fun x138 =>
                          yP (Sum.inl x138)) x128) fun s129 =>
                    yB (yGt 20 s20.1 1) fun x139 =>
                    yB (yPt 20 s20.1 1 (x139 - (1 : Int))) fun _ =>
                    yP (Sum.inr (Sum.inr (s20.1, s20.2.1, x127, x122, x40)))
                  else
                    yP (Sum.inr (Sum.inr (s20.1, s20.2.1, x127, x122, x40)))
                else
                yB (yP (0 : Int)) fun x140 =>
                yB (α := (Unit ⊕ (Unit ⊕ (Unit ⊕ (Option Nat × Option Nat × Int × Int × Int))))) (
                  yB (yR (ybAnd (ybUshr x22 (8 : Int)) (1 : Int))) fun _ =>
                  if (ybAnd (ybUshr x22 (8 : Int)) (1 : Int)) = 0 then
                    yP (Sum.inl ())
                  else
                    if ¬ s20.2.1 = none then
                      yB (yC ([(0 : Int)] : List Int) (iz_Top_back 0 (0 : Int))) fun x142 =>
                      yB (yGt 20 s20.2.1 1) fun x143 =>
                      yB (α := Int) (
                        yB (α := (Unit ⊕ Int)) (
                          yB (yR2 x142 x143) fun _ =>
                          if ¬ x142 = x143 then
                            yP (Sum.inl ())
                          else
                            yB (yC ([(4 : Int)] : List Int) (iz_Top_count 0 (4 : Int))) fun x146 =>
                            yB (yR x146) fun _ =>
                            if ¬ x146 = 0 then
                              yP (Sum.inl ())
                            else
                              yP (Sum.inr (1 : Int))) (Sum.elim (fun s145 =>
                          yP (0 : Int)) yP)) fun s144 =>
                      yB (yP s144) fun x147 =>
                      yB (yKr 20 s20.2.1 (kf_LRun_copy Y s20.2.1)) fun x148 =>
                      yB (yP x148) fun x149 =>
                      yP (Sum.inr (Sum.inr (Sum.inr (x149, s20.2.1, x147, x140, x40))))
                    else
                      yP (Sum.inl ())) (Sum.elim (fun s141 =>
                  yB (yC ([(0 : Int)] : List Int) (iz_Top_keep 0 (0 : Int))) fun x150 =>
                  yB (yGt 20 s20.1 1) fun x151 =>
                  yB (α := Int) (
                    yB (yR2 x150 x151) fun _ =>
                    if ¬ x150 = x151 then
                      yP (0 : Int)
                    else
                      yP (1 : Int)) fun s152 =>
                  yB (yP s152) fun x153 =>
                  yB (yKr 20 s20.1 (kf_LRun_copy Y s20.1)) fun x154 =>
                  yB (yP x154) fun x155 =>
                  yP (Sum.inr (Sum.inr (s20.1, x155, x153, x140, x40)))) yP)) (Sum.elim (fun s45 =>
                yB (yK (kf_LRun_some Y p1 ((40 : Int) + ((20 : Int) * s20.2.2.2)) (6 : Int))) fun x156 =>
                yB (yP x156) fun x157 =>
                yB (yP (1 : Int)) fun x158 =>
                yB (yKr 20 x157 (kf_LRun_told Y x157)) fun x159 =>
                yB (yK (kf_Law_says Y x159)) fun x160 =>
                yB (α := Int) (
                  yB (α := (Unit ⊕ Int)) (
                    yB (yR x160) fun _ =>
                    if x160 = 0 then
                      yP (Sum.inl ())
                    else
                      yB (yC ([] : List Int) (iz_Top_tell 0)) fun x163 =>
                      yB (yKr 20 x157 (kf_LRun_pieces Y x157)) fun x164 =>
                      yB (yR2 x163 x164) fun _ =>
                      if ¬ x163 = x164 then
                        yP (Sum.inl ())
                      else
                        yB (yC ([(4 : Int)] : List Int) (iz_Top_count 0 (4 : Int))) fun x165 =>
                        yB (yR x165) fun _ =>
                        if ¬ x165 = 0 then
                          yP (Sum.inl ())
                        else
                          yB (yC ([(5 : Int)] : List Int) (iz_Top_count 0 (5 : Int))) fun x166 =>
                          yB (yR x166) fun _ =>
                          if ¬ x166 = 0 then
                            yP (Sum.inl ())
                          else
                            yP (Sum.inr (1 : Int))) (Sum.elim (fun s162 =>
                    yP (0 : Int)) yP)) fun s161 =>
                yB (yP s161) fun x167 =>
                yP (Sum.inr (x157, s20.2.1, x167, x39, x158))) yP)) (Sum.elim (fun s44 =>
              yB (yRm (ybUshr x22 (8 : Int)) (8 : Int)) fun x168 =>
              yB (yP x168) fun x169 =>
              yB (α := Int) (
                yB (yR2 x169 (1 : Int)) fun _ =>
                if ¬ x169 = (1 : Int) then
                  yB (yRm (ybUshr x22 (12 : Int)) (3 : Int)) fun x171 =>
                  yP ((1 : Int) + x171)
                else
                  yB (yRm (ybUshr x22 (12 : Int)) (50 : Int)) fun x172 =>
                  yP ((10 : Int) + x172)) fun s170 =>
              yB (yP s170) fun x173 =>
              yB (yGr 20 s20.1 0) fun x174 =>
              yB (yLd 1 x174 x169) fun x175 =>
              yB (α := Int) (
                yB (yR2 x175 x173) fun _ =>
                if x175 = x173 then
                  yP (0 : Int)
                else
                  yP (1 : Int)) fun s176 =>
              yB (yP s176) fun x177 =>
              yB (yC ([x169, x173] : List Int) (iz_Top_set 0 x169 x173)) fun x178 =>
              yB (α := Int) (
                yB (yR x177) fun _ =>
                if x177 = 0 then
                  yP (-2 : Int)
                else
                  yB (yGr 20 s20.1 0) fun x180 =>
                  yB (yLd 1 x180 x169) fun x181 =>
                  yP x181) fun s179 =>
              yB (α := Int) (
                yB (α := (Unit ⊕ Int)) (
                  yB (yR2 x178 s179) fun _ =>
                  if ¬ x178 = s179 then
                    yP (Sum.inl ())
                  else
                    yB (yC ([(8 : Int), (1 : Int)] : List Int) (iz_Top_set 0 (8 : Int) (1 : Int))) fun x184 =>
                    yB (yR2 x184 (-1 : Int)) fun _ =>
                    if ¬ x184 = (-1 : Int) then
                      yP (Sum.inl ())
                    else
                      yB (yC ([(0 : Int), (6 : Int)] : List Int) (iz_Top_set 0 (0 : Int) (6 : Int))) fun x185 =>
                      yB (yR2 x185 (-1 : Int)) fun _ =>
                      if ¬ x185 = (-1 : Int) then
                        yP (Sum.inl ())
                      else
                        yB (yC ([(1 : Int), (9 : Int)] : List Int) (iz_Top_set 0 (1 : Int) (9 : Int))) fun x186 =>
                        yB (yR2 x186 (-1 : Int)) fun _ =>
                        if ¬ x186 = (-1 : Int) then
                          yP (Sum.inl ())
                        else
                          yB (yC ([(5 : Int), (4 : Int)] : List Int) (iz_Top_set 0 (5 : Int) (4 : Int))) fun x187 =>
                          yB (yR2 x187 (-1 : Int)) fun _ =>
                          if ¬ x187 = (-1 : Int) then
                            yP (Sum.inl ())
                          else
                            yP (Sum.inr (1 : Int))) (Sum.elim (fun s183 =>
                  yP (0 : Int)) yP)) fun s182 =>
              yB (yP s182) fun x188 =>
              yB (yGr 20 s20.1 0) fun x189 =>
              yB (ySt x189 x169 x173) fun _ =>
              yP (s20.1, s20.2.1, x188, x177, x40)) yP)) fun s43 =>
          yB (α := Int) (
            yB (α := (Unit ⊕ Int)) (
              yB (yR s43.2.2.1) fun _ =>
              if s43.2.2.1 = 0 then
                yP (Sum.inl ())
              else
                yB (yK (kf_Law_same Y s43.1)) fun x192 =>
                yB (yR x192) fun _ =>
                if x192 = 0 then
                  yP (Sum.inl ())
                else
                  yP (Sum.inr (1 : Int))) (Sum.elim (fun s191 =>
              yP (0 : Int)) yP)) fun s190 =>
          yB (yP s190) fun x193 =>
          yB (α := Option Nat × Int) (
            yB (yR s43.2.2.2.1) fun _ =>
            if s43.2.2.2.1 = 0 then
              yP (s43.1, x193)
            else
              yB (yR s43.2.2.2.2) fun _ =>
              if ¬ s43.2.2.2.2 = 0 then
                yP (s43.1, x193)
              else
                yB (yR x193) fun _ =>
                if x193 = 0 then
                  yP (s43.1, x193)
                else
                  yB (yR (ybAnd (ybUshr x22 (26 : Int)) (3 : Int))) fun _ =>
                  if ¬ (ybAnd (ybUshr x22 (26 : Int)) (3 : Int)) = 0 then
                    yP (s43.1, x193)
                  else
                    yB (yC ([(4 : Int)] : List Int) (iz_Top_count 0 (4 : Int))) fun x195 =>
                    yB (yP x195) fun x196 =>
                    yB (yC ([] : List Int) (iz_Top_undo 0)) fun x197 =>
                    yB (α := Int) (
                      yB (yR2 x197 (x196 - (1 : Int))) fun _ =>
                      if ¬ x197 = (x196 - (1 : Int)) then
                        yP (0 : Int)
                      else
                        yP (1 : Int)) fun s198 =>
                    yB (yP s198) fun x199 =>
                    yB (yP x24) fun x200 =>
                    yB (α := Int) (
                      yB (α := (Unit ⊕ Int)) (
                        yB (yR x199) fun _ =>
                        if x199 = 0 then
                          yP (Sum.inl ())
                        else
                          yB (yK (kf_Law_same Y x200)) fun x203 =>
                          yB (yR x203) fun _ =>
                          if x203 = 0 then
                            yP (Sum.inl ())
                          else
                            yP (Sum.inr (1 : Int))) (Sum.elim (fun s202 =>
                        yP (0 : Int)) yP)) fun s201 =>
                    yB (yP s201) fun x204 =>
                    yP (x200, x204)) fun s194 =>
          yB (yP (s20.2.2.2 + 1)) fun x205 =>
          yP (Sum.inl (s194.1, s43.2.1, s194.2, x205))) (x3, x4, x17, x18)) fun s19 =>
  yB (yNw 1 s19) fun _ =>
  yP s19
set_option maxRecDepth 20000 in
set_option maxHeartbeats 4000000 in
theorem kb_Law_law {X : qm_X} {Y : yY} {Fn : yFn} (hX : y_ok X Y Fn "ColumnsLevelledLaw" code 16 10 228 jl_Law_law) {r0 : Int} {w0 : yW} (hR : y_RI X Y Fn r0 w0 .boolean) (p1 : Option Nat) : yb X Y Fn (kf_Law_law Y p1) 8 [some (va_rf p1), some (.ref (qx_ad X 0)), none, none, none, none, none, none, none, none, none, none, none, none, none, none] [] (fun r w1 => r = r0 ∧ w1 = w0) := by
  unfold kf_Law_law
  refine y_new hX 4 (t := 10) rfl yn_Law_37 (by decide) (fun x1 => ?_)
  refine y_dup hX 5 rfl (yc_D _) ?_
  refine y_calV hX y_gRo (y_hrINo hX 6 (t := 10) (As := []) (a := x1) rfl ycw_Law_100 (fun p e => by first | (cases e; exact km_LRun_init (yk_G hX) p) | (rw [e]; exact km_LRun_init (yk_G hX) p)) ⟨rfl, by decide, by decide⟩ rfl (Nat.le_trans (y_cs (yc_D _) y_cn) (by decide))) ?_
  refine y_astore_n hX 7 (fun x3 => [some (va_rf p1), some (.ref (qx_ad X 0)), some (va_rf x3), none, none, none, none, none, none, none, none, none, none, none, none, none]) rfl (by decide) (fun _ => rfl) (fun x3 => ?_)
  refine y_aconst hX 8 rfl ?_
  refine y_astore_n hX 9 (fun x4 => [some (va_rf p1), some (.ref (qx_ad X 0)), some (va_rf x3), some (va_rf x4), none, none, none, none, none, none, none, none, none, none, none, none]) rfl (by decide) (fun _ => rfl) (fun x4 => ?_)
  refine y_rload_n hX 10 rfl rfl ?_
  refine y_aload_n hX 11 rfl rfl ?_
  refine y_calI hX y_gK (y_hrS hX 12 (As := [.ref (qx_ad X 0), va_rf x3]) rfl ycw_Law_101 (km_Law_same (yk_G hX) x3) ⟨rfl, by decide, by decide⟩ rfl (Nat.le_trans y_cn (by decide))) (fun x5 => ?_)
  refine y_join (S := Int) 112 (fun s6 => [some (va_rf p1), some (.ref (qx_ad X 0)), some (va_rf x3), some (va_rf x4), none, none, none, none, none, none, none, none, none, none, none, none]) (fun s6 => [yi s6]) ?_ ?_
  ·
    refine y_join2 (S := Unit) 111 (fun s7 => [some (va_rf p1), some (.ref (qx_ad X 0)), some (va_rf x3), some (va_rf x4), none, none, none, none, none, none, none, none, none, none, none, none]) (fun s7 => []) ?_ ?_
    ·
      refine y_ifeq hX 13 111 rfl (by decide) ?_ ?_
      ·
        exact y_exit (fun w h => yj_wk (ρ' := [some (va_rf p1), some (.ref (qx_ad X 0)), some (va_rf x3), some (va_rf x4), none, none, none, none, none, none, none, none, none, none, none, none]) (qw_s (qw_s (qw_s (qw_s (qw_n (qw_n (qw_n (qw_n (qw_n (qw_n (qw_n (qw_n (qw_n (qw_n (qw_n (qw_n (qw_0))))))))))))))))) h)
      ·
        refine y_rload_n hX 14 rfl rfl ?_
        refine y_objI (xs := ([] : List Int)) (m0 := jf_Top_undo 0) hX 15 (a := 0) (ci := 8) (As := []) rfl ycv_Law_107 (jm_Top_undo (qk_GI hX.1) 0 (by decide +kernel)) (fun h => is_Top_undo) (by decide +kernel) ⟨rfl, rfl, rfl, by decide, by decide⟩ rfl (Nat.le_trans y_cn (by decide)) (fun x8 => ?_)
        refine y_iconst hX 16 (-1) rfl (by decide) ?_
        refine y_icne hX 17 111 rfl (by decide) ?_ ?_
        ·
          exact y_exit (fun w h => yj_wk (ρ' := [some (va_rf p1), some (.ref (qx_ad X 0)), some (va_rf x3), some (va_rf x4), none, none, none, none, none, none, none, none, none, none, none, none]) (qw_s (qw_s (qw_s (qw_s (qw_n (qw_n (qw_n (qw_n (qw_n (qw_n (qw_n (qw_n (qw_n (qw_n (qw_n (qw_n (qw_0))))))))))))))))) h)
        ·
          refine y_rload_n hX 18 rfl rfl ?_
          refine y_iconst hX 19 0 rfl (by decide) ?_
          refine y_objI (xs := ([(0 : Int)] : List Int)) (m0 := jf_Top_back 0 (Int32.ofInt (0 : Int))) hX 20 (a := 0) (ci := 8) (As := [yi (0 : Int)]) rfl ycv_Law_110 (jm_Top_back (qk_GI hX.1) 0 (Int32.ofInt (0 : Int)) (by decide +kernel)) (fun h => is_Top_back (yi_toInt (h _ (by simp)))) (by decide +kernel) ⟨rfl, rfl, rfl, by decide, by decide⟩ rfl (Nat.le_trans y_cn (by decide)) (fun x9 => ?_)
          refine y_bipush hX 21 (-2) rfl (by decide) ?_
          refine y_icne hX 22 111 rfl (by decide) ?_ ?_
          ·
            exact y_exit (fun w h => yj_wk (ρ' := [some (va_rf p1), some (.ref (qx_ad X 0)), some (va_rf x3), some (va_rf x4), none, none, none, none, none, none, none, none, none, none, none, none]) (qw_s (qw_s (qw_s (qw_s (qw_n (qw_n (qw_n (qw_n (qw_n (qw_n (qw_n (qw_n (qw_n (qw_n (qw_n (qw_n (qw_0))))))))))))))))) h)
          ·
            refine y_rload_n hX 23 rfl rfl ?_
            refine y_iconst hX 24 2 rfl (by decide) ?_
            refine y_objI (xs := ([(2 : Int)] : List Int)) (m0 := jf_Top_keep 0 (Int32.ofInt (2 : Int))) hX 25 (a := 0) (ci := 8) (As := [yi (2 : Int)]) rfl ycv_Law_113 (jm_Top_keep (qk_GI hX.1) 0 (Int32.ofInt (2 : Int)) (by decide +kernel)) (fun h => is_Top_keep (yi_toInt (h _ (by simp)))) (by decide +kernel) ⟨rfl, rfl, rfl, by decide, by decide⟩ rfl (Nat.le_trans y_cn (by decide)) (fun x10 => ?_)
            refine y_iconst hX 26 (-1) rfl (by decide) ?_
            refine y_icne hX 27 111 rfl (by decide) ?_ ?_
            ·
              exact y_exit (fun w h => yj_wk (ρ' := [some (va_rf p1), some (.ref (qx_ad X 0)), some (va_rf x3), some (va_rf x4), none, none, none, none, none, none, none, none, none, none, none, none]) (qw_s (qw_s (qw_s (qw_s (qw_n (qw_n (qw_n (qw_n (qw_n (qw_n (qw_n (qw_n (qw_n (qw_n (qw_n (qw_n (qw_0))))))))))))))))) h)
            ·
              refine y_rload_n hX 28 rfl rfl ?_
              refine y_objI (xs := ([] : List Int)) (m0 := jf_Top_pour 0) hX 29 (a := 0) (ci := 8) (As := []) rfl ycv_Law_116 (jm_Top_pour (qk_GI hX.1) 0 (by decide +kernel)) (fun h => is_Top_pour) (by decide +kernel) ⟨rfl, rfl, rfl, by decide, by decide⟩ rfl (Nat.le_trans y_cn (by decide)) (fun x11 => ?_)
              refine y_ifne hX 30 111 rfl (by decide) ?_ ?_
              ·
                exact y_exit (fun w h => yj_wk (ρ' := [some (va_rf p1), some (.ref (qx_ad X 0)), some (va_rf x3), some (va_rf x4), none, none, none, none, none, none, none, none, none, none, none, none]) (qw_s (qw_s (qw_s (qw_s (qw_n (qw_n (qw_n (qw_n (qw_n (qw_n (qw_n (qw_n (qw_n (qw_n (qw_n (qw_n (qw_0))))))))))))))))) h)
              ·
                refine y_rload_n hX 31 rfl rfl ?_
                refine y_iconst hX 32 2 rfl (by decide) ?_
                refine y_objI (xs := ([(2 : Int)] : List Int)) (m0 := jf_Top_loose 0 (Int32.ofInt (2 : Int))) hX 33 (a := 0) (ci := 8) (As := [yi (2 : Int)]) rfl ycv_Law_119 (jm_Top_loose (qk_GI hX.1) 0 (Int32.ofInt (2 : Int)) (by decide +kernel)) (fun h => is_Top_loose (yi_toInt (h _ (by simp)))) (by decide +kernel) ⟨rfl, rfl, rfl, by decide, by decide⟩ rfl (Nat.le_trans y_cn (by decide)) (fun x12 => ?_)
                refine y_bipush hX 34 (-2) rfl (by decide) ?_
                refine y_icne hX 35 111 rfl (by decide) ?_ ?_
                ·
                  exact y_exit (fun w h => yj_wk (ρ' := [some (va_rf p1), some (.ref (qx_ad X 0)), some (va_rf x3), some (va_rf x4), none, none, none, none, none, none, none, none, none, none, none, none]) (qw_s (qw_s (qw_s (qw_s (qw_n (qw_n (qw_n (qw_n (qw_n (qw_n (qw_n (qw_n (qw_n (qw_n (qw_n (qw_n (qw_0))))))))))))))))) h)
                ·
                  refine y_rload_n hX 36 rfl rfl ?_
                  refine y_iconst hX 37 (-1) rfl (by decide) ?_
                  refine y_iconst hX 38 0 rfl (by decide) ?_
                  refine y_objI (xs := ([(-1 : Int), (0 : Int)] : List Int)) (m0 := jf_Top_column 0 (Int32.ofInt (-1 : Int)) (Int32.ofInt (0 : Int))) hX 39 (a := 0) (ci := 8) (As := [yi (-1 : Int), yi (0 : Int)]) rfl ycv_Law_122 (jm_Top_column (qk_GI hX.1) 0 (Int32.ofInt (-1 : Int)) (Int32.ofInt (0 : Int)) (by decide +kernel)) (fun h => is_Top_column (yi_toInt (h _ (by simp))) (yi_toInt (h _ (by simp)))) (by decide +kernel) ⟨rfl, rfl, rfl, by decide, by decide⟩ rfl (Nat.le_trans y_cn (by decide)) (fun x13 => ?_)
                  refine y_ifne hX 40 111 rfl (by decide) ?_ ?_
                  ·
                    exact y_exit (fun w h => yj_wk (ρ' := [some (va_rf p1), some (.ref (qx_ad X 0)), some (va_rf x3), some (va_rf x4), none, none, none, none, none, none, none, none, none, none, none, none]) (qw_s (qw_s (qw_s (qw_s (qw_n (qw_n (qw_n (qw_n (qw_n (qw_n (qw_n (qw_n (qw_n (qw_n (qw_n (qw_n (qw_0))))))))))))))))) h)
                  ·
                    refine y_rload_n hX 41 rfl rfl ?_
                    refine y_iconst hX 42 0 rfl (by decide) ?_
                    refine y_objI (xs := ([(0 : Int)] : List Int)) (m0 := jf_Top_least 0 (Int32.ofInt (0 : Int))) hX 43 (a := 0) (ci := 8) (As := [yi (0 : Int)]) rfl ycv_Law_125 (jm_Top_least (qk_GI hX.1) 0 (Int32.ofInt (0 : Int)) (by decide +kernel)) (fun h => is_Top_least (yi_toInt (h _ (by simp)))) (by decide +kernel) ⟨rfl, rfl, rfl, by decide, by decide⟩ rfl (Nat.le_trans y_cn (by decide)) (fun x14 => ?_)
                    refine y_iconst hX 44 (-1) rfl (by decide) ?_
                    refine y_icne hX 45 111 rfl (by decide) ?_ ?_
                    ·
                      exact y_exit (fun w h => yj_wk (ρ' := [some (va_rf p1), some (.ref (qx_ad X 0)), some (va_rf x3), some (va_rf x4), none, none, none, none, none, none, none, none, none, none, none, none]) (qw_s (qw_s (qw_s (qw_s (qw_n (qw_n (qw_n (qw_n (qw_n (qw_n (qw_n (qw_n (qw_n (qw_n (qw_n (qw_n (qw_0))))))))))))))))) h)
                    ·
                      refine y_rload_n hX 46 rfl rfl ?_
                      refine y_iconst hX 47 0 rfl (by decide) ?_
                      refine y_objI (xs := ([(0 : Int)] : List Int)) (m0 := jf_Top_again 0 (Int32.ofInt (0 : Int))) hX 48 (a := 0) (ci := 8) (As := [yi (0 : Int)]) rfl ycv_Law_128 (jm_Top_again (qk_GI hX.1) 0 (Int32.ofInt (0 : Int)) (by decide +kernel)) (fun h => is_Top_again (yi_toInt (h _ (by simp)))) (by decide +kernel) ⟨rfl, rfl, rfl, by decide, by decide⟩ rfl (Nat.le_trans y_cn (by decide)) (fun x15 => ?_)
                      refine y_iconst hX 49 (-1) rfl (by decide) ?_
                      refine y_icne hX 50 111 rfl (by decide) ?_ ?_
                      ·
                        exact y_exit (fun w h => yj_wk (ρ' := [some (va_rf p1), some (.ref (qx_ad X 0)), some (va_rf x3), some (va_rf x4), none, none, none, none, none, none, none, none, none, none, none, none]) (qw_s (qw_s (qw_s (qw_s (qw_n (qw_n (qw_n (qw_n (qw_n (qw_n (qw_n (qw_n (qw_n (qw_n (qw_n (qw_n (qw_0))))))))))))))))) h)
                      ·
                        refine y_rload_n hX 51 rfl rfl ?_
                        refine y_iconst hX 52 0 rfl (by decide) ?_
                        refine y_iconst hX 53 0 rfl (by decide) ?_
                        refine y_objI (xs := ([(0 : Int), (0 : Int)] : List Int)) (m0 := jf_Top_swap 0 (Int32.ofInt (0 : Int)) (Int32.ofInt (0 : Int))) hX 54 (a := 0) (ci := 8) (As := [yi (0 : Int), yi (0 : Int)]) rfl ycv_Law_131 (jm_Top_swap (qk_GI hX.1) 0 (Int32.ofInt (0 : Int)) (Int32.ofInt (0 : Int)) (by decide +kernel)) (fun h => is_Top_swap (yi_toInt (h _ (by simp))) (yi_toInt (h _ (by simp)))) (by decide +kernel) ⟨rfl, rfl, rfl, by decide, by decide⟩ rfl (Nat.le_trans y_cn (by decide)) (fun x16 => ?_)
                        refine y_iconst hX 55 (-1) rfl (by decide) ?_
                        refine y_icne hX 56 111 rfl (by decide) ?_ ?_
                        ·
                          exact y_exit (fun w h => yj_wk (ρ' := [some (va_rf p1), some (.ref (qx_ad X 0)), some (va_rf x3), some (va_rf x4), none, none, none, none, none, none, none, none, none, none, none, none]) (qw_s (qw_s (qw_s (qw_s (qw_n (qw_n (qw_n (qw_n (qw_n (qw_n (qw_n (qw_n (qw_n (qw_n (qw_n (qw_n (qw_0))))))))))))))))) h)
                        ·
                          refine y_iconst hX 57 1 rfl (by decide) ?_
                          exact y_exit (fun w h => yj_goto hX 58 rfl (by decide) (yj_wk (ρ' := [some (va_rf p1), some (.ref (qx_ad X 0)), some (va_rf x3), some (va_rf x4), none, none, none, none, none, none, none, none, none, none, none, none]) (qw_s (qw_s (qw_s (qw_s (qw_n (qw_n (qw_n (qw_n (qw_n (qw_n (qw_n (qw_n (qw_n (qw_n (qw_n (qw_n (qw_0))))))))))))))))) h))
    · intro s7
      refine y_iconst hX 59 0 rfl (by decide) ?_
      exact y_exit (fun w h => yj_wk (ρ' := [some (va_rf p1), some (.ref (qx_ad X 0)), some (va_rf x3), some (va_rf x4), none, none, none, none, none, none, none, none, none, none, none, none]) (qw_s (qw_s (qw_s (qw_s (qw_n (qw_n (qw_n (qw_n (qw_n (qw_n (qw_n (qw_n (qw_n (qw_n (qw_n (qw_n (qw_0))))))))))))))))) h)
  · intro s6
    refine y_istore hX 60 (fun x17 => [some (va_rf p1), some (.ref (qx_ad X 0)), some (va_rf x3), some (va_rf x4), some (yi x17), none, none, none, none, none, none, none, none, none, none, none]) rfl (by decide) (fun _ => rfl) (fun x17 => ?_)
    refine y_iconst hX 61 0 rfl (by decide) ?_
    refine y_istore hX 62 (fun x18 => [some (va_rf p1), some (.ref (qx_ad X 0)), some (va_rf x3), some (va_rf x4), some (yi x17), some (yi x18), none, none, none, none, none, none, none, none, none, none]) rfl (by decide) (fun _ => rfl) (fun x18 => ?_)
    refine y_join (S := Int) 1251 (fun s19 => [none, none, none, none, some (yi s19), none, none, none, none, none, none, none, none, none, none, none]) (fun s19 => []) ?_ ?_
    ·
      refine y_loopw (S := Option Nat × Option Nat × Int × Int) ((x3, x4, x17, x18)) (fun s20 => [some (va_rf p1), some (.ref (qx_ad X 0)), some (va_rf s20.1), some (va_rf s20.2.1), some (yi s20.2.2.1), some (yi s20.2.2.2), none, none, none, none, none, none, none, none, none, none]) (qw_s (qw_s (qw_s (qw_s (qw_s (qw_s (qw_n (qw_n (qw_n (qw_n (qw_n (qw_n (qw_n (qw_n (qw_n (qw_n (qw_0))))))))))))))))) (fun s20 => ?_)
      refine y_iload hX 63 rfl rfl ?_
      refine y_bipush hX 64 26 rfl (by decide) ?_
      refine y_icge hX 65 1251 rfl (by decide) ?_ ?_
      ·
        exact y_exit (fun w h => yj_wk (ρ' := [none, none, none, none, some (yi s20.2.2.1), none, none, none, none, none, none, none, none, none, none, none]) (qw_n (qw_n (qw_n (qw_n (qw_s (qw_n (qw_n (qw_n (qw_n (qw_n (qw_n (qw_n (qw_n (qw_n (qw_n (qw_n (qw_0))))))))))))))))) h)
      ·
        refine y_iload hX 66 rfl rfl ?_
        refine y_ifeq hX 67 1251 rfl (by decide) ?_ ?_
        ·
          exact y_exit (fun w h => yj_wk (ρ' := [none, none, none, none, some (yi s20.2.2.1), none, none, none, none, none, none, none, none, none, none, none]) (qw_n (qw_n (qw_n (qw_n (qw_s (qw_n (qw_n (qw_n (qw_n (qw_n (qw_n (qw_n (qw_n (qw_n (qw_n (qw_n (qw_0))))))))))))))))) h)
        ·
          refine y_aload_n hX 68 rfl rfl ?_
          refine y_iload hX 69 rfl rfl ?_
          refine y_calI hX y_gK (y_hrS hX 70 (As := [va_rf p1, yi s20.2.2.2]) rfl ycw_Law_134 (km_Law_cell (yk_G hX) p1 s20.2.2.2) ⟨rfl, by decide, by decide⟩ rfl (Nat.le_trans y_cn (by decide))) (fun x21 => ?_)
          refine y_iconst hX 71 1 rfl (by decide) ?_
          refine y_iushr hX 72 rfl ?_
          refine y_istore hX 73 (fun x22 => [some (va_rf p1), some (.ref (qx_ad X 0)), some (va_rf s20.1), some (va_rf s20.2.1), some (yi s20.2.2.1), some (yi s20.2.2.2), some (yi x22), none, none, none, none, none, none, none, none, none]) rfl (by decide) (fun _ => rfl) (fun x22 => ?_)
          refine y_aload_n hX 74 rfl rfl ?_
          refine y_calR hX y_gRo (y_hrVo hX 75 (t := 10) (As := []) (a := s20.1) rfl ycw_Law_138 (fun p e => by first | (cases e; exact km_LRun_copy (yk_G hX) p) | (rw [e]; exact km_LRun_copy (yk_G hX) p)) (by decide) ⟨rfl, rfl, rfl, by decide, by decide⟩ rfl (Nat.le_trans y_cn (by decide))) (fun x23 => ?_)
          refine y_astore hX 76 (fun x24 => [some (va_rf p1), some (.ref (qx_ad X 0)), some (va_rf s20.1), some (va_rf s20.2.1), some (yi s20.2.2.1), some (yi s20.2.2.2), some (yi x22), some (va_rf x24), none, none, none, none, none, none, none, none]) rfl (by decide) (fun _ => rfl) (fun x24 => ?_)
          refine y_aload_n hX 77 rfl rfl ?_
          refine y_getN hX 78 (t := 10) (j := 1) rfl yfl_Law_36 (by decide) (by decide +kernel) (fun x25 => ?_)
          refine y_join (S := Int) 167 (fun s26 => [some (va_rf p1), some (.ref (qx_ad X 0)), some (va_rf s20.1), some (va_rf s20.2.1), none, some (yi s20.2.2.2), some (yi x22), some (va_rf x24), none, none, none, none, none, none, none, none]) (fun s26 => [yi s26]) ?_ ?_
          ·
            refine y_ifne hX 79 156 rfl (by decide) ?_ ?_
            ·
              refine y_iload hX 82 rfl rfl ?_
              refine y_iconst hX 83 4 rfl (by decide) ?_
              refine y_iushr hX 84 rfl ?_
              refine y_aload_n hX 85 rfl rfl ?_
              refine y_getN hX 86 (t := 10) (j := 1) rfl yfl_Law_36 (by decide) (by decide +kernel) (fun x27 => ?_)
              refine y_iconst hX 87 1 rfl (by decide) ?_
              refine y_iadd hX 88 rfl ?_
              refine y_irem hX 89 rfl (fun x28 => ?_)
              exact y_exit (fun w h => yj_wk (ρ' := [some (va_rf p1), some (.ref (qx_ad X 0)), some (va_rf s20.1), some (va_rf s20.2.1), none, some (yi s20.2.2.2), some (yi x22), some (va_rf x24), none, none, none, none, none, none, none, none]) (qw_s (qw_s (qw_s (qw_s (qw_n (qw_s (qw_s (qw_s (qw_n (qw_n (qw_n (qw_n (qw_n (qw_n (qw_n (qw_n (qw_0))))))))))))))))) h)
            ·
              refine y_iconst hX 80 0 rfl (by decide) ?_
              exact y_exit (fun w h => yj_goto hX 81 rfl (by decide) (yj_wk (ρ' := [some (va_rf p1), some (.ref (qx_ad X 0)), some (va_rf s20.1), some (va_rf s20.2.1), none, some (yi s20.2.2.2), some (yi x22), some (va_rf x24), none, none, none, none, none, none, none, none]) (qw_s (qw_s (qw_s (qw_s (qw_n (qw_s (qw_s (qw_s (qw_n (qw_n (qw_n (qw_n (qw_n (qw_n (qw_n (qw_n (qw_0))))))))))))))))) h))
          · intro s26
            refine y_istore hX 90 (fun x29 => [some (va_rf p1), some (.ref (qx_ad X 0)), some (va_rf s20.1), some (va_rf s20.2.1), none, some (yi s20.2.2.2), some (yi x22), some (va_rf x24), some (yi x29), none, none, none, none, none, none, none]) rfl (by decide) (fun _ => rfl) (fun x29 => ?_)
            refine y_iload hX 91 rfl rfl ?_
            refine y_aload_n hX 92 rfl rfl ?_
            refine y_getN hX 93 (t := 10) (j := 1) rfl yfl_Law_36 (by decide) (by decide +kernel) (fun x30 => ?_)
            refine y_join (S := Int) 183 (fun s31 => [some (va_rf p1), some (.ref (qx_ad X 0)), some (va_rf s20.1), some (va_rf s20.2.1), none, some (yi s20.2.2.2), some (yi x22), some (va_rf x24), some (yi x29), none, none, none, none, none, none, none]) (fun s31 => [yi s31]) ?_ ?_
            ·
              refine y_icge hX 94 182 rfl (by decide) ?_ ?_
              ·
                refine y_iconst hX 97 0 rfl (by decide) ?_
                exact y_exit (fun w h => yj_wk (ρ' := [some (va_rf p1), some (.ref (qx_ad X 0)), some (va_rf s20.1), some (va_rf s20.2.1), none, some (yi s20.2.2.2), some (yi x22), some (va_rf x24), some (yi x29), none, none, none, none, none, none, none]) (qw_s (qw_s (qw_s (qw_s (qw_n (qw_s (qw_s (qw_s (qw_s (qw_n (qw_n (qw_n (qw_n (qw_n (qw_n (qw_n (qw_0))))))))))))))))) h)
              ·
                refine y_iconst hX 95 1 rfl (by decide) ?_
                exact y_exit (fun w h => yj_goto hX 96 rfl (by decide) (yj_wk (ρ' := [some (va_rf p1), some (.ref (qx_ad X 0)), some (va_rf s20.1), some (va_rf s20.2.1), none, some (yi s20.2.2.2), some (yi x22), some (va_rf x24), some (yi x29), none, none, none, none, none, none, none]) (qw_s (qw_s (qw_s (qw_s (qw_n (qw_s (qw_s (qw_s (qw_s (qw_n (qw_n (qw_n (qw_n (qw_n (qw_n (qw_n (qw_0))))))))))))))))) h))
            · intro s31
              refine y_istore hX 98 (fun x32 => [some (va_rf p1), some (.ref (qx_ad X 0)), some (va_rf s20.1), some (va_rf s20.2.1), none, some (yi s20.2.2.2), some (yi x22), some (va_rf x24), some (yi x29), some (yi x32), none, none, none, none, none, none]) rfl (by decide) (fun _ => rfl) (fun x32 => ?_)
              refine y_iload hX 99 rfl rfl ?_
              refine y_join (S := Int) 208 (fun s33 => [some (va_rf p1), some (.ref (qx_ad X 0)), some (va_rf s20.1), some (va_rf s20.2.1), none, some (yi s20.2.2.2), some (yi x22), some (va_rf x24), some (yi x29), some (yi x32), none, none, none, none, none, none]) (fun s33 => [yi s33]) ?_ ?_
              ·
                refine y_join2 (S := Unit) 207 (fun s34 => [some (va_rf p1), some (.ref (qx_ad X 0)), some (va_rf s20.1), some (va_rf s20.2.1), none, some (yi s20.2.2.2), some (yi x22), some (va_rf x24), some (yi x29), some (yi x32), none, none, none, none, none, none]) (fun s34 => []) ?_ ?_
                ·
                  refine y_ifeq hX 100 207 rfl (by decide) ?_ ?_
                  ·
                    exact y_exit (fun w h => yj_wk (ρ' := [some (va_rf p1), some (.ref (qx_ad X 0)), some (va_rf s20.1), some (va_rf s20.2.1), none, some (yi s20.2.2.2), some (yi x22), some (va_rf x24), some (yi x29), some (yi x32), none, none, none, none, none, none]) (qw_s (qw_s (qw_s (qw_s (qw_n (qw_s (qw_s (qw_s (qw_s (qw_s (qw_n (qw_n (qw_n (qw_n (qw_n (qw_n (qw_0))))))))))))))))) h)
                  ·
                    refine y_aload_n hX 101 rfl rfl ?_
                    refine y_getNR hX 102 (t := 10) (j := 2) rfl yfl_Law_52 (by decide) (by decide +kernel) (fun x35 => ?_)
                    refine y_iload hX 103 rfl rfl ?_
                    refine y_aald hX 104 (t := 4) (by decide) rfl (fun x36 => ?_)
                    refine y_iconst hX 105 0 rfl (by decide) ?_
                    refine y_iald hX 106 rfl (fun x37 => ?_)
                    refine y_iconst hX 107 4 rfl (by decide) ?_
                    refine y_iceq hX 108 207 rfl (by decide) ?_ ?_
                    ·
                      exact y_exit (fun w h => yj_wk (ρ' := [some (va_rf p1), some (.ref (qx_ad X 0)), some (va_rf s20.1), some (va_rf s20.2.1), none, some (yi s20.2.2.2), some (yi x22), some (va_rf x24), some (yi x29), some (yi x32), none, none, none, none, none, none]) (qw_s (qw_s (qw_s (qw_s (qw_n (qw_s (qw_s (qw_s (qw_s (qw_s (qw_n (qw_n (qw_n (qw_n (qw_n (qw_n (qw_0))))))))))))))))) h)
                    ·
                      refine y_iconst hX 109 1 rfl (by decide) ?_
                      exact y_exit (fun w h => yj_goto hX 110 rfl (by decide) (yj_wk (ρ' := [some (va_rf p1), some (.ref (qx_ad X 0)), some (va_rf s20.1), some (va_rf s20.2.1), none, some (yi s20.2.2.2), some (yi x22), some (va_rf x24), some (yi x29), some (yi x32), none, none, none, none, none, none]) (qw_s (qw_s (qw_s (qw_s (qw_n (qw_s (qw_s (qw_s (qw_s (qw_s (qw_n (qw_n (qw_n (qw_n (qw_n (qw_n (qw_0))))))))))))))))) h))
                · intro s34
                  refine y_iconst hX 111 0 rfl (by decide) ?_
                  exact y_exit (fun w h => yj_wk (ρ' := [some (va_rf p1), some (.ref (qx_ad X 0)), some (va_rf s20.1), some (va_rf s20.2.1), none, some (yi s20.2.2.2), some (yi x22), some (va_rf x24), some (yi x29), some (yi x32), none, none, none, none, none, none]) (qw_s (qw_s (qw_s (qw_s (qw_n (qw_s (qw_s (qw_s (qw_s (qw_s (qw_n (qw_n (qw_n (qw_n (qw_n (qw_n (qw_0))))))))))))))))) h)
              · intro s33
                refine y_istore hX 112 (fun x38 => [some (va_rf p1), some (.ref (qx_ad X 0)), some (va_rf s20.1), some (va_rf s20.2.1), none, some (yi s20.2.2.2), some (yi x22), some (va_rf x24), some (yi x29), some (yi x32), some (yi x38), none, none, none, none, none]) rfl (by decide) (fun _ => rfl) (fun x38 => ?_)
                refine y_iconst hX 113 1 rfl (by decide) ?_
                refine y_istore hX 114 (fun x39 => [some (va_rf p1), some (.ref (qx_ad X 0)), some (va_rf s20.1), some (va_rf s20.2.1), none, some (yi s20.2.2.2), some (yi x22), some (va_rf x24), some (yi x29), some (yi x32), some (yi x38), some (yi x39), none, none, none, none]) rfl (by decide) (fun _ => rfl) (fun x39 => ?_)
                refine y_iconst hX 115 0 rfl (by decide) ?_
                refine y_istore hX 116 (fun x40 => [some (va_rf p1), some (.ref (qx_ad X 0)), some (va_rf s20.1), some (va_rf s20.2.1), none, some (yi s20.2.2.2), some (yi x22), some (va_rf x24), some (yi x29), some (yi x32), some (yi x38), some (yi x39), some (yi x40), none, none, none]) rfl (by decide) (fun _ => rfl) (fun x40 => ?_)
                refine y_iload hX 117 rfl rfl ?_
                refine y_join (S := Int) 230 (fun s41 => [some (va_rf p1), some (.ref (qx_ad X 0)), some (va_rf s20.1), some (va_rf s20.2.1), none, some (yi s20.2.2.2), some (yi x22), some (va_rf x24), some (yi x29), some (yi x32), some (yi x38), some (yi x39), some (yi x40), none, none, none]) (fun s41 => [yi s41]) ?_ ?_
                ·
                  refine y_ifne hX 118 225 rfl (by decide) ?_ ?_
                  ·
                    refine y_iload hX 121 rfl rfl ?_
                    refine y_bipush hX 122 10 rfl (by decide) ?_
                    refine y_irem hX 123 rfl (fun x42 => ?_)
                    exact y_exit (fun w h => yj_wk (ρ' := [some (va_rf p1), some (.ref (qx_ad X 0)), some (va_rf s20.1), some (va_rf s20.2.1), none, some (yi s20.2.2.2), some (yi x22), some (va_rf x24), some (yi x29), some (yi x32), some (yi x38), some (yi x39), some (yi x40), none, none, none]) (qw_s (qw_s (qw_s (qw_s (qw_n (qw_s (qw_s (qw_s (qw_s (qw_s (qw_s (qw_s (qw_s (qw_n (qw_n (qw_n (qw_0))))))))))))))))) h)
                  ·
                    refine y_iconst hX 119 0 rfl (by decide) ?_
                    exact y_exit (fun w h => yj_goto hX 120 rfl (by decide) (yj_wk (ρ' := [some (va_rf p1), some (.ref (qx_ad X 0)), some (va_rf s20.1), some (va_rf s20.2.1), none, some (yi s20.2.2.2), some (yi x22), some (va_rf x24), some (yi x29), some (yi x32), some (yi x38), some (yi x39), some (yi x40), none, none, none]) (qw_s (qw_s (qw_s (qw_s (qw_n (qw_s (qw_s (qw_s (qw_s (qw_s (qw_s (qw_s (qw_s (qw_n (qw_n (qw_n (qw_0))))))))))))))))) h))
                · intro s41
                  refine y_join (S := Option Nat × Option Nat × Int × Int × Int) 1152 (fun s43 => [some (va_rf p1), some (.ref (qx_ad X 0)), some (va_rf s43.1), some (va_rf s43.2.1), some (yi s43.2.2.1), some (yi s20.2.2.2), some (yi x22), some (va_rf x24), none, none, none, some (yi s43.2.2.2.1), some (yi s43.2.2.2.2), none, none, none]) (fun s43 => []) ?_ ?_
                  ·
                    refine y_join2 (S := Unit) 346 (fun s44 => [some (va_rf p1), some (.ref (qx_ad X 0)), some (va_rf s20.1), some (va_rf s20.2.1), none, some (yi s20.2.2.2), some (yi x22), some (va_rf x24), none, none, none, none, some (yi x40), none, none, none]) (fun s44 => []) ?_ ?_
                    ·
                      refine y_join2 (S := Unit) 280 (fun s45 => [some (va_rf p1), some (.ref (qx_ad X 0)), none, some (va_rf s20.2.1), none, some (yi s20.2.2.2), some (yi x22), some (va_rf x24), none, none, none, some (yi x39), none, none, none, none]) (fun s45 => []) ?_ ?_
                      ·
                        refine y_swR (fun hx => ?_)
                        refine y_swc 0 ?_ (fun h0 => ?_)
                        ·
                          refine y_tin hX 124 280 rfl (by decide) (by decide) rfl (by decide) ?_
                          exact y_exit (fun w h => yj_wk (ρ' := [some (va_rf p1), some (.ref (qx_ad X 0)), none, some (va_rf s20.2.1), none, some (yi s20.2.2.2), some (yi x22), some (va_rf x24), none, none, none, some (yi x39), none, none, none, none]) (qw_s (qw_s (qw_n (qw_s (qw_n (qw_s (qw_s (qw_s (qw_n (qw_n (qw_n (qw_s (qw_n (qw_n (qw_n (qw_n (qw_0))))))))))))))))) h)
                        refine y_swc 1 ?_ (fun h1 => ?_)
                        ·
                          refine y_tin hX 124 280 rfl (by decide) (by decide) rfl (by decide) ?_
                          exact y_exit (fun w h => yj_wk (ρ' := [some (va_rf p1), some (.ref (qx_ad X 0)), none, some (va_rf s20.2.1), none, some (yi s20.2.2.2), some (yi x22), some (va_rf x24), none, none, none, some (yi x39), none, none, none, none]) (qw_s (qw_s (qw_n (qw_s (qw_n (qw_s (qw_s (qw_s (qw_n (qw_n (qw_n (qw_s (qw_n (qw_n (qw_n (qw_n (qw_0))))))))))))))))) h)
                        refine y_swc 2 ?_ (fun h2 => ?_)
                        ·
                          refine y_tin hX 124 346 rfl (by decide) (by decide) rfl (by decide) ?_
                          exact y_exit (fun w h => yj_wk (ρ' := [some (va_rf p1), some (.ref (qx_ad X 0)), some (va_rf s20.1), some (va_rf s20.2.1), none, some (yi s20.2.2.2), some (yi x22), some (va_rf x24), none, none, none, none, some (yi x40), none, none, none]) (qw_s (qw_s (qw_s (qw_s (qw_n (qw_s (qw_s (qw_s (qw_n (qw_n (qw_n (qw_n (qw_s (qw_n (qw_n (qw_n (qw_0))))))))))))))))) h)
                        refine y_swc 3 ?_ (fun h3 => ?_)
                        ·
                          refine y_tin hX 124 346 rfl (by decide) (by decide) rfl (by decide) ?_
                          exact y_exit (fun w h => yj_wk (ρ' := [some (va_rf p1), some (.ref (qx_ad X 0)), some (va_rf s20.1), some (va_rf s20.2.1), none, some (yi s20.2.2.2), some (yi x22), some (va_rf x24), none, none, none, none, some (yi x40), none, none, none]) (qw_s (qw_s (qw_s (qw_s (qw_n (qw_s (qw_s (qw_s (qw_n (qw_n (qw_n (qw_n (qw_s (qw_n (qw_n (qw_n (qw_0))))))))))))))))) h)
                        refine y_swc 4 ?_ (fun h4 => ?_)
                        ·
                          refine y_tin hX 124 496 rfl (by decide) (by decide) rfl (by decide) ?_
                          refine y_iload hX 241 rfl rfl ?_
                          refine y_bipush hX 242 12 rfl (by decide) ?_
                          refine y_iushr hX 243 rfl ?_
                          refine y_iconst hX 244 1 rfl (by decide) ?_
                          refine y_iand hX 245 rfl ?_
                          refine y_istore hX 246 (fun x46 => [some (va_rf p1), some (.ref (qx_ad X 0)), some (va_rf s20.1), some (va_rf s20.2.1), none, some (yi s20.2.2.2), some (yi x22), some (va_rf x24), some (yi x29), some (yi x32), some (yi x38), some (yi x39), some (yi x40), some (yi x46), none, none]) rfl (by decide) (fun _ => rfl) (fun x46 => ?_)
                          refine y_iload hX 247 rfl rfl ?_
                          refine y_join (S := Int) 529 (fun s47 => [some (va_rf p1), some (.ref (qx_ad X 0)), some (va_rf s20.1), some (va_rf s20.2.1), none, some (yi s20.2.2.2), some (yi x22), some (va_rf x24), some (yi x29), none, some (yi x38), none, some (yi x40), some (yi x46), none, none]) (fun s47 => [yi s47]) ?_ ?_
                          ·
                            refine y_join2 (S := Unit) 528 (fun s48 => [some (va_rf p1), some (.ref (qx_ad X 0)), some (va_rf s20.1), some (va_rf s20.2.1), none, some (yi s20.2.2.2), some (yi x22), some (va_rf x24), some (yi x29), none, some (yi x38), none, some (yi x40), some (yi x46), none, none]) (fun s48 => []) ?_ ?_
                            ·
                              refine y_ifeq hX 248 528 rfl (by decide) ?_ ?_
                              ·
                                exact y_exit (fun w h => yj_wk (ρ' := [some (va_rf p1), some (.ref (qx_ad X 0)), some (va_rf s20.1), some (va_rf s20.2.1), none, some (yi s20.2.2.2), some (yi x22), some (va_rf x24), some (yi x29), none, some (yi x38), none, some (yi x40), some (yi x46), none, none]) (qw_s (qw_s (qw_s (qw_s (qw_n (qw_s (qw_s (qw_s (qw_s (qw_n (qw_s (qw_n (qw_s (qw_s (qw_n (qw_n (qw_0))))))))))))))))) h)
                              ·
                                refine y_aload_n hX 249 rfl rfl ?_
                                refine y_getNR hX 250 (t := 10) (j := 2) rfl yfl_Law_52 (by decide) (by decide +kernel) (fun x49 => ?_)
                                refine y_iload hX 251 rfl rfl ?_
                                refine y_aald hX 252 (t := 4) (by decide) rfl (fun x50 => ?_)
                                refine y_iconst hX 253 4 rfl (by decide) ?_
                                refine y_iald hX 254 rfl (fun x51 => ?_)
                                refine y_iload hX 255 rfl rfl ?_
                                refine y_iceq hX 256 528 rfl (by decide) ?_ ?_
                                ·
                                  exact y_exit (fun w h => yj_wk (ρ' := [some (va_rf p1), some (.ref (qx_ad X 0)), some (va_rf s20.1), some (va_rf s20.2.1), none, some (yi s20.2.2.2), some (yi x22), some (va_rf x24), some (yi x29), none, some (yi x38), none, some (yi x40), some (yi x46), none, none]) (qw_s (qw_s (qw_s (qw_s (qw_n (qw_s (qw_s (qw_s (qw_s (qw_n (qw_s (qw_n (qw_s (qw_s (qw_n (qw_n (qw_0))))))))))))))))) h)
                                ·
                                  refine y_iconst hX 257 1 rfl (by decide) ?_
                                  exact y_exit (fun w h => yj_goto hX 258 rfl (by decide) (yj_wk (ρ' := [some (va_rf p1), some (.ref (qx_ad X 0)), some (va_rf s20.1), some (va_rf s20.2.1), none, some (yi s20.2.2.2), some (yi x22), some (va_rf x24), some (yi x29), none, some (yi x38), none, some (yi x40), some (yi x46), none, none]) (qw_s (qw_s (qw_s (qw_s (qw_n (qw_s (qw_s (qw_s (qw_s (qw_n (qw_s (qw_n (qw_s (qw_s (qw_n (qw_n (qw_0))))))))))))))))) h))
                            · intro s48
                              refine y_iconst hX 259 0 rfl (by decide) ?_
                              exact y_exit (fun w h => yj_wk (ρ' := [some (va_rf p1), some (.ref (qx_ad X 0)), some (va_rf s20.1), some (va_rf s20.2.1), none, some (yi s20.2.2.2), some (yi x22), some (va_rf x24), some (yi x29), none, some (yi x38), none, some (yi x40), some (yi x46), none, none]) (qw_s (qw_s (qw_s (qw_s (qw_n (qw_s (qw_s (qw_s (qw_s (qw_n (qw_s (qw_n (qw_s (qw_s (qw_n (qw_n (qw_0))))))))))))))))) h)
                          · intro s47
                            refine y_istore hX 260 (fun x52 => [some (va_rf p1), some (.ref (qx_ad X 0)), some (va_rf s20.1), some (va_rf s20.2.1), none, some (yi s20.2.2.2), some (yi x22), some (va_rf x24), some (yi x29), none, some (yi x38), some (yi x52), some (yi x40), some (yi x46), none, none]) rfl (by decide) (fun _ => rfl) (fun x52 => ?_)
                            refine y_rload_n hX 261 rfl rfl ?_
                            refine y_iload hX 262 rfl rfl ?_
                            refine y_iload hX 263 rfl rfl ?_
                            refine y_iconst hX 264 1 rfl (by decide) ?_
                            refine y_join (S := Int) 545 (fun s53 => [some (va_rf p1), some (.ref (qx_ad X 0)), some (va_rf s20.1), some (va_rf s20.2.1), none, some (yi s20.2.2.2), some (yi x22), some (va_rf x24), some (yi x29), none, some (yi x38), some (yi x52), some (yi x40), some (yi x46), none, none]) (fun s53 => [yi s53, yi x29, .ref (qx_ad X 0)]) ?_ ?_
                            ·
                              refine y_icne hX 265 544 rfl (by decide) ?_ ?_
                              ·
                                refine y_iconst hX 268 0 rfl (by decide) ?_
                                exact y_exit (fun w h => yj_wk (ρ' := [some (va_rf p1), some (.ref (qx_ad X 0)), some (va_rf s20.1), some (va_rf s20.2.1), none, some (yi s20.2.2.2), some (yi x22), some (va_rf x24), some (yi x29), none, some (yi x38), some (yi x52), some (yi x40), some (yi x46), none, none]) (qw_s (qw_s (qw_s (qw_s (qw_n (qw_s (qw_s (qw_s (qw_s (qw_n (qw_s (qw_s (qw_s (qw_s (qw_n (qw_n (qw_0))))))))))))))))) h)
                              ·
                                refine y_iconst hX 266 1 rfl (by decide) ?_
                                exact y_exit (fun w h => yj_goto hX 267 rfl (by decide) (yj_wk (ρ' := [some (va_rf p1), some (.ref (qx_ad X 0)), some (va_rf s20.1), some (va_rf s20.2.1), none, some (yi s20.2.2.2), some (yi x22), some (va_rf x24), some (yi x29), none, some (yi x38), some (yi x52), some (yi x40), some (yi x46), none, none]) (qw_s (qw_s (qw_s (qw_s (qw_n (qw_s (qw_s (qw_s (qw_s (qw_n (qw_s (qw_s (qw_s (qw_s (qw_n (qw_n (qw_0))))))))))))))))) h))
                            · intro s53
                              refine y_objI (xs := ([x29, s53] : List Int)) (m0 := jf_Top_tie 0 (Int32.ofInt x29) (Int32.ofInt s53)) hX 269 (a := 0) (ci := 8) (As := [yi x29, yi s53]) rfl ycv_Law_161 (jm_Top_tie (qk_GI hX.1) 0 (Int32.ofInt x29) (Int32.ofInt s53) (by decide +kernel)) (fun h => is_Top_tie (yi_toInt (h _ (by simp))) (yi_toInt (h _ (by simp)))) (by decide +kernel) ⟨rfl, rfl, rfl, by decide, by decide⟩ rfl (Nat.le_trans y_cn (by decide)) (fun x54 => ?_)
                              refine y_iload hX 270 rfl rfl ?_
                              refine y_join (S := Int) 568 (fun s55 => [some (va_rf p1), some (.ref (qx_ad X 0)), some (va_rf s20.1), some (va_rf s20.2.1), none, some (yi s20.2.2.2), some (yi x22), some (va_rf x24), some (yi x29), none, none, some (yi x52), some (yi x40), some (yi x46), none, none]) (fun s55 => [yi s55, yi x54]) ?_ ?_
                              ·
                                refine y_ifne hX 271 557 rfl (by decide) ?_ ?_
                                ·
                                  refine y_iload hX 274 rfl rfl ?_
                                  refine y_ifeq hX 275 566 rfl (by decide) ?_ ?_
                                  ·
                                    refine y_bipush hX 278 (-2) rfl (by decide) ?_
                                    exact y_exit (fun w h => yj_wk (ρ' := [some (va_rf p1), some (.ref (qx_ad X 0)), some (va_rf s20.1), some (va_rf s20.2.1), none, some (yi s20.2.2.2), some (yi x22), some (va_rf x24), some (yi x29), none, none, some (yi x52), some (yi x40), some (yi x46), none, none]) (qw_s (qw_s (qw_s (qw_s (qw_n (qw_s (qw_s (qw_s (qw_s (qw_n (qw_n (qw_s (qw_s (qw_s (qw_n (qw_n (qw_0))))))))))))))))) h)
                                  ·
                                    refine y_iconst hX 276 1 rfl (by decide) ?_
                                    exact y_exit (fun w h => yj_goto hX 277 rfl (by decide) (yj_wk (ρ' := [some (va_rf p1), some (.ref (qx_ad X 0)), some (va_rf s20.1), some (va_rf s20.2.1), none, some (yi s20.2.2.2), some (yi x22), some (va_rf x24), some (yi x29), none, none, some (yi x52), some (yi x40), some (yi x46), none, none]) (qw_s (qw_s (qw_s (qw_s (qw_n (qw_s (qw_s (qw_s (qw_s (qw_n (qw_n (qw_s (qw_s (qw_s (qw_n (qw_n (qw_0))))))))))))))))) h))
                                ·
                                  refine y_iconst hX 272 (-1) rfl (by decide) ?_
                                  exact y_exit (fun w h => yj_goto hX 273 rfl (by decide) (yj_wk (ρ' := [some (va_rf p1), some (.ref (qx_ad X 0)), some (va_rf s20.1), some (va_rf s20.2.1), none, some (yi s20.2.2.2), some (yi x22), some (va_rf x24), some (yi x29), none, none, some (yi x52), some (yi x40), some (yi x46), none, none]) (qw_s (qw_s (qw_s (qw_s (qw_n (qw_s (qw_s (qw_s (qw_s (qw_n (qw_n (qw_s (qw_s (qw_s (qw_n (qw_n (qw_0))))))))))))))))) h))
                              · intro s55
                                refine y_join (S := Int) 576 (fun s56 => [some (va_rf p1), some (.ref (qx_ad X 0)), some (va_rf s20.1), some (va_rf s20.2.1), none, some (yi s20.2.2.2), some (yi x22), some (va_rf x24), some (yi x29), none, none, some (yi x52), some (yi x40), some (yi x46), none, none]) (fun s56 => [yi s56]) ?_ ?_
                                ·
                                  refine y_icne hX 279 575 rfl (by decide) ?_ ?_
                                  ·
                                    refine y_iconst hX 282 0 rfl (by decide) ?_
                                    exact y_exit (fun w h => yj_wk (ρ' := [some (va_rf p1), some (.ref (qx_ad X 0)), some (va_rf s20.1), some (va_rf s20.2.1), none, some (yi s20.2.2.2), some (yi x22), some (va_rf x24), some (yi x29), none, none, some (yi x52), some (yi x40), some (yi x46), none, none]) (qw_s (qw_s (qw_s (qw_s (qw_n (qw_s (qw_s (qw_s (qw_s (qw_n (qw_n (qw_s (qw_s (qw_s (qw_n (qw_n (qw_0))))))))))))))))) h)
                                  ·
                                    refine y_iconst hX 280 1 rfl (by decide) ?_
                                    exact y_exit (fun w h => yj_goto hX 281 rfl (by decide) (yj_wk (ρ' := [some (va_rf p1), some (.ref (qx_ad X 0)), some (va_rf s20.1), some (va_rf s20.2.1), none, some (yi s20.2.2.2), some (yi x22), some (va_rf x24), some (yi x29), none, none, some (yi x52), some (yi x40), some (yi x46), none, none]) (qw_s (qw_s (qw_s (qw_s (qw_n (qw_s (qw_s (qw_s (qw_s (qw_n (qw_n (qw_s (qw_s (qw_s (qw_n (qw_n (qw_0))))))))))))))))) h))
                                · intro s56
                                  refine y_istore hX 283 (fun x57 => [some (va_rf p1), some (.ref (qx_ad X 0)), some (va_rf s20.1), some (va_rf s20.2.1), some (yi x57), some (yi s20.2.2.2), some (yi x22), some (va_rf x24), some (yi x29), none, none, some (yi x52), some (yi x40), some (yi x46), none, none]) rfl (by decide) (fun _ => rfl) (fun x57 => ?_)
                                  refine y_iload hX 284 rfl rfl ?_
                                  refine y_ifeq hX 285 1152 rfl (by decide) ?_ ?_
                                  ·
                                    exact y_exit (fun w h => yj_wk (ρ' := [some (va_rf p1), some (.ref (qx_ad X 0)), some (va_rf s20.1), some (va_rf s20.2.1), some (yi x57), some (yi s20.2.2.2), some (yi x22), some (va_rf x24), none, none, none, some (yi x52), some (yi x40), none, none, none]) (qw_s (qw_s (qw_s (qw_s (qw_s (qw_s (qw_s (qw_s (qw_n (qw_n (qw_n (qw_s (qw_s (qw_n (qw_n (qw_n (qw_0))))))))))))))))) h)
                                  ·
                                    refine y_aload_n hX 286 rfl rfl ?_
                                    refine y_getNR hX 287 (t := 10) (j := 2) rfl yfl_Law_52 (by decide) (by decide +kernel) (fun x58 => ?_)
                                    refine y_iload hX 288 rfl rfl ?_
                                    refine y_aald hX 289 (t := 4) (by decide) rfl (fun x59 => ?_)
                                    refine y_iconst hX 290 4 rfl (by decide) ?_
                                    refine y_iload hX 291 rfl rfl ?_
                                    refine y_iast hX 292 rfl ?_
                                    exact y_exit (fun w h => yj_goto hX 293 rfl (by decide) (yj_wk (ρ' := [some (va_rf p1), some (.ref (qx_ad X 0)), some (va_rf s20.1), some (va_rf s20.2.1), some (yi x57), some (yi s20.2.2.2), some (yi x22), some (va_rf x24), none, none, none, some (yi x52), some (yi x40), none, none, none]) (qw_s (qw_s (qw_s (qw_s (qw_s (qw_s (qw_s (qw_s (qw_n (qw_n (qw_n (qw_s (qw_s (qw_n (qw_n (qw_n (qw_0))))))))))))))))) h))
                        refine y_swc 5 ?_ (fun h5 => ?_)
                        ·
                          refine y_tin hX 124 597 rfl (by decide) (by decide) rfl (by decide) ?_
                          refine y_iload hX 294 rfl rfl ?_
                          refine y_bipush hX 295 12 rfl (by decide) ?_
                          refine y_iushr hX 296 rfl ?_
                          refine y_bipush hX 297 9 rfl (by decide) ?_
                          refine y_irem hX 298 rfl (fun x60 => ?_)
                          refine y_istore hX 299 (fun x61 => [some (va_rf p1), some (.ref (qx_ad X 0)), some (va_rf s20.1), some (va_rf s20.2.1), none, some (yi s20.2.2.2), some (yi x22), some (va_rf x24), some (yi x29), some (yi x32), some (yi x38), some (yi x39), some (yi x40), some (yi x61), none, none]) rfl (by decide) (fun _ => rfl) (fun x61 => ?_)
                          refine y_iload hX 300 rfl rfl ?_
                          refine y_join (S := Int) 632 (fun s62 => [some (va_rf p1), some (.ref (qx_ad X 0)), some (va_rf s20.1), some (va_rf s20.2.1), none, some (yi s20.2.2.2), some (yi x22), some (va_rf x24), some (yi x29), none, some (yi x38), none, some (yi x40), some (yi x61), none, none]) (fun s62 => [yi s62]) ?_ ?_
                          ·
                            refine y_join2 (S := Unit) 631 (fun s63 => [some (va_rf p1), some (.ref (qx_ad X 0)), some (va_rf s20.1), some (va_rf s20.2.1), none, some (yi s20.2.2.2), some (yi x22), some (va_rf x24), some (yi x29), none, some (yi x38), none, some (yi x40), some (yi x61), none, none]) (fun s63 => []) ?_ ?_
                            ·
                              refine y_ifeq hX 301 631 rfl (by decide) ?_ ?_
                              ·
                                exact y_exit (fun w h => yj_wk (ρ' := [some (va_rf p1), some (.ref (qx_ad X 0)), some (va_rf s20.1), some (va_rf s20.2.1), none, some (yi s20.2.2.2), some (yi x22), some (va_rf x24), some (yi x29), none, some (yi x38), none, some (yi x40), some (yi x61), none, none]) (qw_s (qw_s (qw_s (qw_s (qw_n (qw_s (qw_s (qw_s (qw_s (qw_n (qw_s (qw_n (qw_s (qw_s (qw_n (qw_n (qw_0))))))))))))))))) h)
                              ·
                                refine y_aload_n hX 302 rfl rfl ?_
                                refine y_getNR hX 303 (t := 10) (j := 2) rfl yfl_Law_52 (by decide) (by decide +kernel) (fun x64 => ?_)
                                refine y_iload hX 304 rfl rfl ?_
                                refine y_aald hX 305 (t := 4) (by decide) rfl (fun x65 => ?_)
                                refine y_bipush hX 306 6 rfl (by decide) ?_
                                refine y_iald hX 307 rfl (fun x66 => ?_)
                                refine y_iload hX 308 rfl rfl ?_
                                refine y_iceq hX 309 631 rfl (by decide) ?_ ?_
                                ·
                                  exact y_exit (fun w h => yj_wk (ρ' := [some (va_rf p1), some (.ref (qx_ad X 0)), some (va_rf s20.1), some (va_rf s20.2.1), none, some (yi s20.2.2.2), some (yi x22), some (va_rf x24), some (yi x29), none, some (yi x38), none, some (yi x40), some (yi x61), none, none]) (qw_s (qw_s (qw_s (qw_s (qw_n (qw_s (qw_s (qw_s (qw_s (qw_n (qw_s (qw_n (qw_s (qw_s (qw_n (qw_n (qw_0))))))))))))))))) h)
                                ·
                                  refine y_iconst hX 310 1 rfl (by decide) ?_
                                  exact y_exit (fun w h => yj_goto hX 311 rfl (by decide) (yj_wk (ρ' := [some (va_rf p1), some (.ref (qx_ad X 0)), some (va_rf s20.1), some (va_rf s20.2.1), none, some (yi s20.2.2.2), some (yi x22), some (va_rf x24), some (yi x29), none, some (yi x38), none, some (yi x40), some (yi x61), none, none]) (qw_s (qw_s (qw_s (qw_s (qw_n (qw_s (qw_s (qw_s (qw_s (qw_n (qw_s (qw_n (qw_s (qw_s (qw_n (qw_n (qw_0))))))))))))))))) h))
                            · intro s63
                              refine y_iconst hX 312 0 rfl (by decide) ?_
                              exact y_exit (fun w h => yj_wk (ρ' := [some (va_rf p1), some (.ref (qx_ad X 0)), some (va_rf s20.1), some (va_rf s20.2.1), none, some (yi s20.2.2.2), some (yi x22), some (va_rf x24), some (yi x29), none, some (yi x38), none, some (yi x40), some (yi x61), none, none]) (qw_s (qw_s (qw_s (qw_s (qw_n (qw_s (qw_s (qw_s (qw_s (qw_n (qw_s (qw_n (qw_s (qw_s (qw_n (qw_n (qw_0))))))))))))))))) h)
                          · intro s62
                            refine y_istore hX 313 (fun x67 => [some (va_rf p1), some (.ref (qx_ad X 0)), some (va_rf s20.1), some (va_rf s20.2.1), none, some (yi s20.2.2.2), some (yi x22), some (va_rf x24), some (yi x29), none, some (yi x38), some (yi x67), some (yi x40), some (yi x61), none, none]) rfl (by decide) (fun _ => rfl) (fun x67 => ?_)
                            refine y_rload_n hX 314 rfl rfl ?_
                            refine y_iload hX 315 rfl rfl ?_
                            refine y_iload hX 316 rfl rfl ?_
                            refine y_objI (xs := ([x29, x61] : List Int)) (m0 := jf_Top_space 0 (Int32.ofInt x29) (Int32.ofInt x61)) hX 317 (a := 0) (ci := 8) (As := [yi x29, yi x61]) rfl ycv_Law_165 (jm_Top_space (qk_GI hX.1) 0 (Int32.ofInt x29) (Int32.ofInt x61) (by decide +kernel)) (fun h => is_Top_space (yi_toInt (h _ (by simp))) (yi_toInt (h _ (by simp)))) (by decide +kernel) ⟨rfl, rfl, rfl, by decide, by decide⟩ rfl (Nat.le_trans y_cn (by decide)) (fun x68 => ?_)
                            refine y_iload hX 318 rfl rfl ?_
                            refine y_join (S := Int) 671 (fun s69 => [some (va_rf p1), some (.ref (qx_ad X 0)), some (va_rf s20.1), some (va_rf s20.2.1), none, some (yi s20.2.2.2), some (yi x22), some (va_rf x24), some (yi x29), none, none, some (yi x67), some (yi x40), some (yi x61), none, none]) (fun s69 => [yi s69, yi x68]) ?_ ?_
                            ·
                              refine y_ifne hX 319 651 rfl (by decide) ?_ ?_
                              ·
                                refine y_iload hX 322 rfl rfl ?_
                                refine y_ifeq hX 323 669 rfl (by decide) ?_ ?_
                                ·
                                  refine y_bipush hX 331 (-2) rfl (by decide) ?_
                                  exact y_exit (fun w h => yj_wk (ρ' := [some (va_rf p1), some (.ref (qx_ad X 0)), some (va_rf s20.1), some (va_rf s20.2.1), none, some (yi s20.2.2.2), some (yi x22), some (va_rf x24), some (yi x29), none, none, some (yi x67), some (yi x40), some (yi x61), none, none]) (qw_s (qw_s (qw_s (qw_s (qw_n (qw_s (qw_s (qw_s (qw_s (qw_n (qw_n (qw_s (qw_s (qw_s (qw_n (qw_n (qw_0))))))))))))))))) h)
                                ·
                                  refine y_aload_n hX 324 rfl rfl ?_
                                  refine y_getNR hX 325 (t := 10) (j := 2) rfl yfl_Law_52 (by decide) (by decide +kernel) (fun x70 => ?_)
                                  refine y_iload hX 326 rfl rfl ?_
                                  refine y_aald hX 327 (t := 4) (by decide) rfl (fun x71 => ?_)
                                  refine y_bipush hX 328 6 rfl (by decide) ?_
                                  refine y_iald hX 329 rfl (fun x72 => ?_)
                                  exact y_exit (fun w h => yj_goto hX 330 rfl (by decide) (yj_wk (ρ' := [some (va_rf p1), some (.ref (qx_ad X 0)), some (va_rf s20.1), some (va_rf s20.2.1), none, some (yi s20.2.2.2), some (yi x22), some (va_rf x24), some (yi x29), none, none, some (yi x67), some (yi x40), some (yi x61), none, none]) (qw_s (qw_s (qw_s (qw_s (qw_n (qw_s (qw_s (qw_s (qw_s (qw_n (qw_n (qw_s (qw_s (qw_s (qw_n (qw_n (qw_0))))))))))))))))) h))
                              ·
                                refine y_iconst hX 320 (-1) rfl (by decide) ?_
                                exact y_exit (fun w h => yj_goto hX 321 rfl (by decide) (yj_wk (ρ' := [some (va_rf p1), some (.ref (qx_ad X 0)), some (va_rf s20.1), some (va_rf s20.2.1), none, some (yi s20.2.2.2), some (yi x22), some (va_rf x24), some (yi x29), none, none, some (yi x67), some (yi x40), some (yi x61), none, none]) (qw_s (qw_s (qw_s (qw_s (qw_n (qw_s (qw_s (qw_s (qw_s (qw_n (qw_n (qw_s (qw_s (qw_s (qw_n (qw_n (qw_0))))))))))))))))) h))
                            · intro s69
                              refine y_join (S := Int) 691 (fun s73 => [some (va_rf p1), some (.ref (qx_ad X 0)), some (va_rf s20.1), some (va_rf s20.2.1), none, some (yi s20.2.2.2), some (yi x22), some (va_rf x24), some (yi x29), none, none, some (yi x67), some (yi x40), some (yi x61), none, none]) (fun s73 => [yi s73]) ?_ ?_
                              ·
                                refine y_join2 (S := Unit) 690 (fun s74 => [some (va_rf p1), some (.ref (qx_ad X 0)), some (va_rf s20.1), some (va_rf s20.2.1), none, some (yi s20.2.2.2), some (yi x22), some (va_rf x24), some (yi x29), none, none, some (yi x67), some (yi x40), some (yi x61), none, none]) (fun s74 => []) ?_ ?_
                                ·
                                  refine y_icne hX 332 690 rfl (by decide) ?_ ?_
                                  ·
                                    exact y_exit (fun w h => yj_wk (ρ' := [some (va_rf p1), some (.ref (qx_ad X 0)), some (va_rf s20.1), some (va_rf s20.2.1), none, some (yi s20.2.2.2), some (yi x22), some (va_rf x24), some (yi x29), none, none, some (yi x67), some (yi x40), some (yi x61), none, none]) (qw_s (qw_s (qw_s (qw_s (qw_n (qw_s (qw_s (qw_s (qw_s (qw_n (qw_n (qw_s (qw_s (qw_s (qw_n (qw_n (qw_0))))))))))))))))) h)
                                  ·
                                    refine y_rload_n hX 333 rfl rfl ?_
                                    refine y_iload hX 334 rfl rfl ?_
                                    refine y_bipush hX 335 31 rfl (by decide) ?_
                                    refine y_objI (xs := ([x29, (31 : Int)] : List Int)) (m0 := jf_Top_space 0 (Int32.ofInt x29) (Int32.ofInt (31 : Int))) hX 336 (a := 0) (ci := 8) (As := [yi x29, yi (31 : Int)]) rfl ycv_Law_165 (jm_Top_space (qk_GI hX.1) 0 (Int32.ofInt x29) (Int32.ofInt (31 : Int)) (by decide +kernel)) (fun h => is_Top_space (yi_toInt (h _ (by simp))) (yi_toInt (h _ (by simp)))) (by decide +kernel) ⟨rfl, rfl, rfl, by decide, by decide⟩ rfl (Nat.le_trans y_cn (by decide)) (fun x75 => ?_)
                                    refine y_iconst hX 337 (-1) rfl (by decide) ?_
                                    refine y_icne hX 338 690 rfl (by decide) ?_ ?_
                                    ·
                                      exact y_exit (fun w h => yj_wk (ρ' := [some (va_rf p1), some (.ref (qx_ad X 0)), some (va_rf s20.1), some (va_rf s20.2.1), none, some (yi s20.2.2.2), some (yi x22), some (va_rf x24), some (yi x29), none, none, some (yi x67), some (yi x40), some (yi x61), none, none]) (qw_s (qw_s (qw_s (qw_s (qw_n (qw_s (qw_s (qw_s (qw_s (qw_n (qw_n (qw_s (qw_s (qw_s (qw_n (qw_n (qw_0))))))))))))))))) h)
                                    ·
                                      refine y_iconst hX 339 1 rfl (by decide) ?_
                                      exact y_exit (fun w h => yj_goto hX 340 rfl (by decide) (yj_wk (ρ' := [some (va_rf p1), some (.ref (qx_ad X 0)), some (va_rf s20.1), some (va_rf s20.2.1), none, some (yi s20.2.2.2), some (yi x22), some (va_rf x24), some (yi x29), none, none, some (yi x67), some (yi x40), some (yi x61), none, none]) (qw_s (qw_s (qw_s (qw_s (qw_n (qw_s (qw_s (qw_s (qw_s (qw_n (qw_n (qw_s (qw_s (qw_s (qw_n (qw_n (qw_0))))))))))))))))) h))
                                · intro s74
                                  refine y_iconst hX 341 0 rfl (by decide) ?_
                                  exact y_exit (fun w h => yj_wk (ρ' := [some (va_rf p1), some (.ref (qx_ad X 0)), some (va_rf s20.1), some (va_rf s20.2.1), none, some (yi s20.2.2.2), some (yi x22), some (va_rf x24), some (yi x29), none, none, some (yi x67), some (yi x40), some (yi x61), none, none]) (qw_s (qw_s (qw_s (qw_s (qw_n (qw_s (qw_s (qw_s (qw_s (qw_n (qw_n (qw_s (qw_s (qw_s (qw_n (qw_n (qw_0))))))))))))))))) h)
                              · intro s73
                                refine y_istore hX 342 (fun x76 => [some (va_rf p1), some (.ref (qx_ad X 0)), some (va_rf s20.1), some (va_rf s20.2.1), some (yi x76), some (yi s20.2.2.2), some (yi x22), some (va_rf x24), some (yi x29), none, none, some (yi x67), some (yi x40), some (yi x61), none, none]) rfl (by decide) (fun _ => rfl) (fun x76 => ?_)
                                refine y_iload hX 343 rfl rfl ?_
                                refine y_ifeq hX 344 1152 rfl (by decide) ?_ ?_
                                ·
                                  exact y_exit (fun w h => yj_wk (ρ' := [some (va_rf p1), some (.ref (qx_ad X 0)), some (va_rf s20.1), some (va_rf s20.2.1), some (yi x76), some (yi s20.2.2.2), some (yi x22), some (va_rf x24), none, none, none, some (yi x67), some (yi x40), none, none, none]) (qw_s (qw_s (qw_s (qw_s (qw_s (qw_s (qw_s (qw_s (qw_n (qw_n (qw_n (qw_s (qw_s (qw_n (qw_n (qw_n (qw_0))))))))))))))))) h)
                                ·
                                  refine y_aload_n hX 345 rfl rfl ?_
                                  refine y_getNR hX 346 (t := 10) (j := 2) rfl yfl_Law_52 (by decide) (by decide +kernel) (fun x77 => ?_)
                                  refine y_iload hX 347 rfl rfl ?_
                                  refine y_aald hX 348 (t := 4) (by decide) rfl (fun x78 => ?_)
                                  refine y_bipush hX 349 6 rfl (by decide) ?_
                                  refine y_iload hX 350 rfl rfl ?_
                                  refine y_iast hX 351 rfl ?_
                                  exact y_exit (fun w h => yj_goto hX 352 rfl (by decide) (yj_wk (ρ' := [some (va_rf p1), some (.ref (qx_ad X 0)), some (va_rf s20.1), some (va_rf s20.2.1), some (yi x76), some (yi s20.2.2.2), some (yi x22), some (va_rf x24), none, none, none, some (yi x67), some (yi x40), none, none, none]) (qw_s (qw_s (qw_s (qw_s (qw_s (qw_s (qw_s (qw_s (qw_n (qw_n (qw_n (qw_s (qw_s (qw_n (qw_n (qw_n (qw_0))))))))))))))))) h))
                        refine y_swc 6 ?_ (fun h6 => ?_)
                        ·
                          refine y_tin hX 124 713 rfl (by decide) (by decide) rfl (by decide) ?_
                          refine y_iload hX 353 rfl rfl ?_
                          refine y_bipush hX 354 12 rfl (by decide) ?_
                          refine y_iushr hX 355 rfl ?_
                          refine y_bipush hX 356 7 rfl (by decide) ?_
                          refine y_irem hX 357 rfl (fun x79 => ?_)
                          refine y_istore hX 358 (fun x80 => [some (va_rf p1), some (.ref (qx_ad X 0)), some (va_rf s20.1), some (va_rf s20.2.1), none, some (yi s20.2.2.2), some (yi x22), some (va_rf x24), some (yi x29), some (yi x32), some (yi x38), some (yi x39), some (yi x40), some (yi x80), none, none]) rfl (by decide) (fun _ => rfl) (fun x80 => ?_)
                          refine y_iload hX 359 rfl rfl ?_
                          refine y_join (S := Int) 749 (fun s81 => [some (va_rf p1), some (.ref (qx_ad X 0)), some (va_rf s20.1), some (va_rf s20.2.1), none, some (yi s20.2.2.2), some (yi x22), some (va_rf x24), some (yi x29), none, none, none, some (yi x40), some (yi x80), none, none]) (fun s81 => [yi s81]) ?_ ?_
                          ·
                            refine y_join2 (S := Unit) 748 (fun s82 => [some (va_rf p1), some (.ref (qx_ad X 0)), some (va_rf s20.1), some (va_rf s20.2.1), none, some (yi s20.2.2.2), some (yi x22), some (va_rf x24), some (yi x29), none, none, none, some (yi x40), some (yi x80), none, none]) (fun s82 => []) ?_ ?_
                            ·
                              refine y_ifeq hX 360 748 rfl (by decide) ?_ ?_
                              ·
                                exact y_exit (fun w h => yj_wk (ρ' := [some (va_rf p1), some (.ref (qx_ad X 0)), some (va_rf s20.1), some (va_rf s20.2.1), none, some (yi s20.2.2.2), some (yi x22), some (va_rf x24), some (yi x29), none, none, none, some (yi x40), some (yi x80), none, none]) (qw_s (qw_s (qw_s (qw_s (qw_n (qw_s (qw_s (qw_s (qw_s (qw_n (qw_n (qw_n (qw_s (qw_s (qw_n (qw_n (qw_0))))))))))))))))) h)
                              ·
                                refine y_iload hX 361 rfl rfl ?_
                                refine y_aload_n hX 362 rfl rfl ?_
                                refine y_getN hX 363 (t := 10) (j := 1) rfl yfl_Law_36 (by decide) (by decide +kernel) (fun x83 => ?_)
                                refine y_icge hX 364 748 rfl (by decide) ?_ ?_
                                ·
                                  exact y_exit (fun w h => yj_wk (ρ' := [some (va_rf p1), some (.ref (qx_ad X 0)), some (va_rf s20.1), some (va_rf s20.2.1), none, some (yi s20.2.2.2), some (yi x22), some (va_rf x24), some (yi x29), none, none, none, some (yi x40), some (yi x80), none, none]) (qw_s (qw_s (qw_s (qw_s (qw_n (qw_s (qw_s (qw_s (qw_s (qw_n (qw_n (qw_n (qw_s (qw_s (qw_n (qw_n (qw_0))))))))))))))))) h)
                                ·
                                  refine y_iload hX 365 rfl rfl ?_
                                  refine y_iload hX 366 rfl rfl ?_
                                  refine y_iceq hX 367 748 rfl (by decide) ?_ ?_
                                  ·
                                    exact y_exit (fun w h => yj_wk (ρ' := [some (va_rf p1), some (.ref (qx_ad X 0)), some (va_rf s20.1), some (va_rf s20.2.1), none, some (yi s20.2.2.2), some (yi x22), some (va_rf x24), some (yi x29), none, none, none, some (yi x40), some (yi x80), none, none]) (qw_s (qw_s (qw_s (qw_s (qw_n (qw_s (qw_s (qw_s (qw_s (qw_n (qw_n (qw_n (qw_s (qw_s (qw_n (qw_n (qw_0))))))))))))))))) h)
                                  ·
                                    refine y_iconst hX 368 1 rfl (by decide) ?_
                                    exact y_exit (fun w h => yj_goto hX 369 rfl (by decide) (yj_wk (ρ' := [some (va_rf p1), some (.ref (qx_ad X 0)), some (va_rf s20.1), some (va_rf s20.2.1), none, some (yi s20.2.2.2), some (yi x22), some (va_rf x24), some (yi x29), none, none, none, some (yi x40), some (yi x80), none, none]) (qw_s (qw_s (qw_s (qw_s (qw_n (qw_s (qw_s (qw_s (qw_s (qw_n (qw_n (qw_n (qw_s (qw_s (qw_n (qw_n (qw_0))))))))))))))))) h))
                            · intro s82
                              refine y_iconst hX 370 0 rfl (by decide) ?_
                              exact y_exit (fun w h => yj_wk (ρ' := [some (va_rf p1), some (.ref (qx_ad X 0)), some (va_rf s20.1), some (va_rf s20.2.1), none, some (yi s20.2.2.2), some (yi x22), some (va_rf x24), some (yi x29), none, none, none, some (yi x40), some (yi x80), none, none]) (qw_s (qw_s (qw_s (qw_s (qw_n (qw_s (qw_s (qw_s (qw_s (qw_n (qw_n (qw_n (qw_s (qw_s (qw_n (qw_n (qw_0))))))))))))))))) h)
                          · intro s81
                            refine y_istore hX 371 (fun x84 => [some (va_rf p1), some (.ref (qx_ad X 0)), some (va_rf s20.1), some (va_rf s20.2.1), none, some (yi s20.2.2.2), some (yi x22), some (va_rf x24), some (yi x29), none, none, some (yi x84), some (yi x40), some (yi x80), none, none]) rfl (by decide) (fun _ => rfl) (fun x84 => ?_)
                            refine y_rload_n hX 372 rfl rfl ?_
                            refine y_iload hX 373 rfl rfl ?_
                            refine y_iload hX 374 rfl rfl ?_
                            refine y_objI (xs := ([x29, x80] : List Int)) (m0 := jf_Top_swap 0 (Int32.ofInt x29) (Int32.ofInt x80)) hX 375 (a := 0) (ci := 8) (As := [yi x29, yi x80]) rfl ycv_Law_131 (jm_Top_swap (qk_GI hX.1) 0 (Int32.ofInt x29) (Int32.ofInt x80) (by decide +kernel)) (fun h => is_Top_swap (yi_toInt (h _ (by simp))) (yi_toInt (h _ (by simp)))) (by decide +kernel) ⟨rfl, rfl, rfl, by decide, by decide⟩ rfl (Nat.le_trans y_cn (by decide)) (fun x85 => ?_)
                            refine y_iload hX 376 rfl rfl ?_
                            refine y_join (S := Int) 769 (fun s86 => [some (va_rf p1), some (.ref (qx_ad X 0)), some (va_rf s20.1), some (va_rf s20.2.1), none, some (yi s20.2.2.2), some (yi x22), some (va_rf x24), some (yi x29), none, none, some (yi x84), some (yi x40), some (yi x80), none, none]) (fun s86 => [yi s86, yi x85]) ?_ ?_
                            ·
                              refine y_ifeq hX 377 768 rfl (by decide) ?_ ?_
                              ·
                                refine y_iconst hX 380 (-1) rfl (by decide) ?_
                                exact y_exit (fun w h => yj_wk (ρ' := [some (va_rf p1), some (.ref (qx_ad X 0)), some (va_rf s20.1), some (va_rf s20.2.1), none, some (yi s20.2.2.2), some (yi x22), some (va_rf x24), some (yi x29), none, none, some (yi x84), some (yi x40), some (yi x80), none, none]) (qw_s (qw_s (qw_s (qw_s (qw_n (qw_s (qw_s (qw_s (qw_s (qw_n (qw_n (qw_s (qw_s (qw_s (qw_n (qw_n (qw_0))))))))))))))))) h)
                              ·
                                refine y_iconst hX 378 1 rfl (by decide) ?_
                                exact y_exit (fun w h => yj_goto hX 379 rfl (by decide) (yj_wk (ρ' := [some (va_rf p1), some (.ref (qx_ad X 0)), some (va_rf s20.1), some (va_rf s20.2.1), none, some (yi s20.2.2.2), some (yi x22), some (va_rf x24), some (yi x29), none, none, some (yi x84), some (yi x40), some (yi x80), none, none]) (qw_s (qw_s (qw_s (qw_s (qw_n (qw_s (qw_s (qw_s (qw_s (qw_n (qw_n (qw_s (qw_s (qw_s (qw_n (qw_n (qw_0))))))))))))))))) h))
                            · intro s86
                              refine y_join (S := Int) 777 (fun s87 => [some (va_rf p1), some (.ref (qx_ad X 0)), some (va_rf s20.1), some (va_rf s20.2.1), none, some (yi s20.2.2.2), some (yi x22), some (va_rf x24), some (yi x29), none, none, some (yi x84), some (yi x40), some (yi x80), none, none]) (fun s87 => [yi s87]) ?_ ?_
                              ·
                                refine y_icne hX 381 776 rfl (by decide) ?_ ?_
                                ·
                                  refine y_iconst hX 384 0 rfl (by decide) ?_
                                  exact y_exit (fun w h => yj_wk (ρ' := [some (va_rf p1), some (.ref (qx_ad X 0)), some (va_rf s20.1), some (va_rf s20.2.1), none, some (yi s20.2.2.2), some (yi x22), some (va_rf x24), some (yi x29), none, none, some (yi x84), some (yi x40), some (yi x80), none, none]) (qw_s (qw_s (qw_s (qw_s (qw_n (qw_s (qw_s (qw_s (qw_s (qw_n (qw_n (qw_s (qw_s (qw_s (qw_n (qw_n (qw_0))))))))))))))))) h)
                                ·
                                  refine y_iconst hX 382 1 rfl (by decide) ?_
                                  exact y_exit (fun w h => yj_goto hX 383 rfl (by decide) (yj_wk (ρ' := [some (va_rf p1), some (.ref (qx_ad X 0)), some (va_rf s20.1), some (va_rf s20.2.1), none, some (yi s20.2.2.2), some (yi x22), some (va_rf x24), some (yi x29), none, none, some (yi x84), some (yi x40), some (yi x80), none, none]) (qw_s (qw_s (qw_s (qw_s (qw_n (qw_s (qw_s (qw_s (qw_s (qw_n (qw_n (qw_s (qw_s (qw_s (qw_n (qw_n (qw_0))))))))))))))))) h))
                              · intro s87
                                refine y_istore hX 385 (fun x88 => [some (va_rf p1), some (.ref (qx_ad X 0)), some (va_rf s20.1), some (va_rf s20.2.1), some (yi x88), some (yi s20.2.2.2), some (yi x22), some (va_rf x24), some (yi x29), none, none, some (yi x84), some (yi x40), some (yi x80), none, none]) rfl (by decide) (fun _ => rfl) (fun x88 => ?_)
                                refine y_iload hX 386 rfl rfl ?_
                                refine y_ifne hX 387 787 rfl (by decide) ?_ ?_
                                ·
                                  refine y_aload_n hX 389 rfl rfl ?_
                                  refine y_getNR hX 390 (t := 10) (j := 2) rfl yfl_Law_52 (by decide) (by decide +kernel) (fun x89 => ?_)
                                  refine y_iload hX 391 rfl rfl ?_
                                  refine y_aald hX 392 (t := 4) (by decide) rfl (fun x90 => ?_)
                                  refine y_astore hX 393 (fun x91 => [some (va_rf p1), some (.ref (qx_ad X 0)), some (va_rf s20.1), some (va_rf s20.2.1), some (yi x88), some (yi s20.2.2.2), some (yi x22), some (va_rf x24), some (yi x29), none, none, some (yi x84), some (yi x40), some (yi x80), some (va_rf x91), none]) rfl (by decide) (fun _ => rfl) (fun x91 => ?_)
                                  refine y_aload_n hX 394 rfl rfl ?_
                                  refine y_getNR hX 395 (t := 10) (j := 3) rfl yfl_Law_59 (by decide) (by decide +kernel) (fun x92 => ?_)
                                  refine y_iload hX 396 rfl rfl ?_
                                  refine y_aald hX 397 (t := 4) (by decide) rfl (fun x93 => ?_)
                                  refine y_astore hX 398 (fun x94 => [some (va_rf p1), some (.ref (qx_ad X 0)), some (va_rf s20.1), some (va_rf s20.2.1), some (yi x88), some (yi s20.2.2.2), some (yi x22), some (va_rf x24), some (yi x29), none, none, some (yi x84), some (yi x40), some (yi x80), some (va_rf x91), some (va_rf x94)]) rfl (by decide) (fun _ => rfl) (fun x94 => ?_)
                                  refine y_aload_n hX 399 rfl rfl ?_
                                  refine y_getNR hX 400 (t := 10) (j := 2) rfl yfl_Law_52 (by decide) (by decide +kernel) (fun x95 => ?_)
                                  refine y_iload hX 401 rfl rfl ?_
                                  refine y_aload_n hX 402 rfl rfl ?_
                                  refine y_getNR hX 403 (t := 10) (j := 2) rfl yfl_Law_52 (by decide) (by decide +kernel) (fun x96 => ?_)
                                  refine y_iload hX 404 rfl rfl ?_
                                  refine y_aald hX 405 (t := 4) (by decide) rfl (fun x97 => ?_)
                                  refine y_aast hX 406 (t := 4) (t' := 1) (by decide) rfl ?_
                                  refine y_aload_n hX 407 rfl rfl ?_
                                  refine y_getNR hX 408 (t := 10) (j := 3) rfl yfl_Law_59 (by decide) (by decide +kernel) (fun x98 => ?_)
                                  refine y_iload hX 409 rfl rfl ?_
                                  refine y_aload_n hX 410 rfl rfl ?_
                                  refine y_getNR hX 411 (t := 10) (j := 3) rfl yfl_Law_59 (by decide) (by decide +kernel) (fun x99 => ?_)
                                  refine y_iload hX 412 rfl rfl ?_
                                  refine y_aald hX 413 (t := 4) (by decide) rfl (fun x100 => ?_)
                                  refine y_aast hX 414 (t := 4) (t' := 1) (by decide) rfl ?_
                                  refine y_aload_n hX 415 rfl rfl ?_
                                  refine y_getNR hX 416 (t := 10) (j := 2) rfl yfl_Law_52 (by decide) (by decide +kernel) (fun x101 => ?_)
                                  refine y_iload hX 417 rfl rfl ?_
                                  refine y_aload hX 418 rfl rfl ?_
                                  refine y_aast hX 419 (t := 4) (t' := 1) (by decide) rfl ?_
                                  refine y_aload_n hX 420 rfl rfl ?_
                                  refine y_getNR hX 421 (t := 10) (j := 3) rfl yfl_Law_59 (by decide) (by decide +kernel) (fun x102 => ?_)
                                  refine y_iload hX 422 rfl rfl ?_
                                  refine y_aload hX 423 rfl rfl ?_
                                  refine y_aast hX 424 (t := 4) (t' := 1) (by decide) rfl ?_
                                  exact y_exit (fun w h => yj_goto hX 425 rfl (by decide) (yj_wk (ρ' := [some (va_rf p1), some (.ref (qx_ad X 0)), some (va_rf s20.1), some (va_rf s20.2.1), some (yi x88), some (yi s20.2.2.2), some (yi x22), some (va_rf x24), none, none, none, some (yi x84), some (yi x40), none, none, none]) (qw_s (qw_s (qw_s (qw_s (qw_s (qw_s (qw_s (qw_s (qw_n (qw_n (qw_n (qw_s (qw_s (qw_n (qw_n (qw_n (qw_0))))))))))))))))) h))
                                ·
                                  exact y_exit (fun w h => yj_goto hX 388 rfl (by decide) (yj_wk (ρ' := [some (va_rf p1), some (.ref (qx_ad X 0)), some (va_rf s20.1), some (va_rf s20.2.1), some (yi x88), some (yi s20.2.2.2), some (yi x22), some (va_rf x24), none, none, none, some (yi x84), some (yi x40), none, none, none]) (qw_s (qw_s (qw_s (qw_s (qw_s (qw_s (qw_s (qw_s (qw_n (qw_n (qw_n (qw_s (qw_s (qw_n (qw_n (qw_n (qw_0))))))))))))))))) h))
                        refine y_swc 7 ?_ (fun h7 => ?_)
                        ·
                          refine y_tin hX 124 854 rfl (by decide) (by decide) rfl (by decide) ?_
                          refine y_iload hX 426 rfl rfl ?_
                          refine y_join (S := Int) 892 (fun s103 => [some (va_rf p1), some (.ref (qx_ad X 0)), some (va_rf s20.1), some (va_rf s20.2.1), none, some (yi s20.2.2.2), some (yi x22), some (va_rf x24), some (yi x29), some (yi x32), none, none, some (yi x40), none, none, none]) (fun s103 => [yi s103]) ?_ ?_
                          ·
                            refine y_join2 (S := Unit) 891 (fun s104 => [some (va_rf p1), some (.ref (qx_ad X 0)), some (va_rf s20.1), some (va_rf s20.2.1), none, some (yi s20.2.2.2), some (yi x22), some (va_rf x24), some (yi x29), some (yi x32), none, none, some (yi x40), none, none, none]) (fun s104 => []) ?_ ?_
                            ·
                              refine y_ifeq hX 427 891 rfl (by decide) ?_ ?_
                              ·
                                exact y_exit (fun w h => yj_wk (ρ' := [some (va_rf p1), some (.ref (qx_ad X 0)), some (va_rf s20.1), some (va_rf s20.2.1), none, some (yi s20.2.2.2), some (yi x22), some (va_rf x24), some (yi x29), some (yi x32), none, none, some (yi x40), none, none, none]) (qw_s (qw_s (qw_s (qw_s (qw_n (qw_s (qw_s (qw_s (qw_s (qw_s (qw_n (qw_n (qw_s (qw_n (qw_n (qw_n (qw_0))))))))))))))))) h)
                              ·
                                refine y_aload_n hX 428 rfl rfl ?_
                                refine y_getN hX 429 (t := 10) (j := 1) rfl yfl_Law_36 (by decide) (by decide +kernel) (fun x105 => ?_)
                                refine y_bipush hX 430 16 rfl (by decide) ?_
                                refine y_icge hX 431 891 rfl (by decide) ?_ ?_
                                ·
                                  exact y_exit (fun w h => yj_wk (ρ' := [some (va_rf p1), some (.ref (qx_ad X 0)), some (va_rf s20.1), some (va_rf s20.2.1), none, some (yi s20.2.2.2), some (yi x22), some (va_rf x24), some (yi x29), some (yi x32), none, none, some (yi x40), none, none, none]) (qw_s (qw_s (qw_s (qw_s (qw_n (qw_s (qw_s (qw_s (qw_s (qw_s (qw_n (qw_n (qw_s (qw_n (qw_n (qw_n (qw_0))))))))))))))))) h)
                                ·
                                  refine y_aload_n hX 432 rfl rfl ?_
                                  refine y_calI hX y_gRo (y_hrVo hX 433 (t := 10) (As := []) (a := s20.1) rfl ycw_Law_157 (fun p e => by first | (cases e; exact km_LRun_pieces (yk_G hX) p) | (rw [e]; exact km_LRun_pieces (yk_G hX) p)) (by decide) ⟨rfl, rfl, rfl, by decide, by decide⟩ rfl (Nat.le_trans y_cn (by decide))) (fun x106 => ?_)
                                  refine y_aload_n hX 434 rfl rfl ?_
                                  refine y_getNR hX 435 (t := 10) (j := 2) rfl yfl_Law_52 (by decide) (by decide +kernel) (fun x107 => ?_)
                                  refine y_iload hX 436 rfl rfl ?_
                                  refine y_aald hX 437 (t := 4) (by decide) rfl (fun x108 => ?_)
                                  refine y_iconst hX 438 1 rfl (by decide) ?_
                                  refine y_iald hX 439 rfl (fun x109 => ?_)
                                  refine y_iadd hX 440 rfl ?_
                                  refine y_bipush hX 441 90 rfl (by decide) ?_
                                  refine y_icgt hX 442 891 rfl (by decide) ?_ ?_
                                  ·
                                    exact y_exit (fun w h => yj_wk (ρ' := [some (va_rf p1), some (.ref (qx_ad X 0)), some (va_rf s20.1), some (va_rf s20.2.1), none, some (yi s20.2.2.2), some (yi x22), some (va_rf x24), some (yi x29), some (yi x32), none, none, some (yi x40), none, none, none]) (qw_s (qw_s (qw_s (qw_s (qw_n (qw_s (qw_s (qw_s (qw_s (qw_s (qw_n (qw_n (qw_s (qw_n (qw_n (qw_n (qw_0))))))))))))))))) h)
                                  ·
                                    refine y_iconst hX 443 1 rfl (by decide) ?_
                                    exact y_exit (fun w h => yj_goto hX 444 rfl (by decide) (yj_wk (ρ' := [some (va_rf p1), some (.ref (qx_ad X 0)), some (va_rf s20.1), some (va_rf s20.2.1), none, some (yi s20.2.2.2), some (yi x22), some (va_rf x24), some (yi x29), some (yi x32), none, none, some (yi x40), none, none, none]) (qw_s (qw_s (qw_s (qw_s (qw_n (qw_s (qw_s (qw_s (qw_s (qw_s (qw_n (qw_n (qw_s (qw_n (qw_n (qw_n (qw_0))))))))))))))))) h))
                            · intro s104
                              refine y_iconst hX 445 0 rfl (by decide) ?_
                              exact y_exit (fun w h => yj_wk (ρ' := [some (va_rf p1), some (.ref (qx_ad X 0)), some (va_rf s20.1), some (va_rf s20.2.1), none, some (yi s20.2.2.2), some (yi x22), some (va_rf x24), some (yi x29), some (yi x32), none, none, some (yi x40), none, none, none]) (qw_s (qw_s (qw_s (qw_s (qw_n (qw_s (qw_s (qw_s (qw_s (qw_s (qw_n (qw_n (qw_s (qw_n (qw_n (qw_n (qw_0))))))))))))))))) h)
                          · intro s103
                            refine y_istore hX 446 (fun x110 => [some (va_rf p1), some (.ref (qx_ad X 0)), some (va_rf s20.1), some (va_rf s20.2.1), none, some (yi s20.2.2.2), some (yi x22), some (va_rf x24), some (yi x29), some (yi x32), none, some (yi x110), some (yi x40), none, none, none]) rfl (by decide) (fun _ => rfl) (fun x110 => ?_)
                            refine y_rload_n hX 447 rfl rfl ?_
                            refine y_iload hX 448 rfl rfl ?_
                            refine y_objI (xs := ([x29] : List Int)) (m0 := jf_Top_again 0 (Int32.ofInt x29)) hX 449 (a := 0) (ci := 8) (As := [yi x29]) rfl ycv_Law_128 (jm_Top_again (qk_GI hX.1) 0 (Int32.ofInt x29) (by decide +kernel)) (fun h => is_Top_again (yi_toInt (h _ (by simp)))) (by decide +kernel) ⟨rfl, rfl, rfl, by decide, by decide⟩ rfl (Nat.le_trans y_cn (by decide)) (fun x111 => ?_)
                            refine y_iload hX 450 rfl rfl ?_
                            refine y_join (S := Int) 925 (fun s112 => [some (va_rf p1), some (.ref (qx_ad X 0)), some (va_rf s20.1), some (va_rf s20.2.1), none, some (yi s20.2.2.2), some (yi x22), some (va_rf x24), some (yi x29), none, none, some (yi x110), some (yi x40), none, none, none]) (fun s112 => [yi s112, yi x111]) ?_ ?_
                            ·
                              refine y_ifne hX 451 909 rfl (by decide) ?_ ?_
                              ·
                                refine y_iload hX 454 rfl rfl ?_
                                refine y_ifeq hX 455 923 rfl (by decide) ?_ ?_
                                ·
                                  refine y_bipush hX 461 (-2) rfl (by decide) ?_
                                  exact y_exit (fun w h => yj_wk (ρ' := [some (va_rf p1), some (.ref (qx_ad X 0)), some (va_rf s20.1), some (va_rf s20.2.1), none, some (yi s20.2.2.2), some (yi x22), some (va_rf x24), some (yi x29), none, none, some (yi x110), some (yi x40), none, none, none]) (qw_s (qw_s (qw_s (qw_s (qw_n (qw_s (qw_s (qw_s (qw_s (qw_n (qw_n (qw_s (qw_s (qw_n (qw_n (qw_n (qw_0))))))))))))))))) h)
                                ·
                                  refine y_aload_n hX 456 rfl rfl ?_
                                  refine y_getN hX 457 (t := 10) (j := 1) rfl yfl_Law_36 (by decide) (by decide +kernel) (fun x113 => ?_)
                                  refine y_iconst hX 458 1 rfl (by decide) ?_
                                  refine y_iadd hX 459 rfl ?_
                                  exact y_exit (fun w h => yj_goto hX 460 rfl (by decide) (yj_wk (ρ' := [some (va_rf p1), some (.ref (qx_ad X 0)), some (va_rf s20.1), some (va_rf s20.2.1), none, some (yi s20.2.2.2), some (yi x22), some (va_rf x24), some (yi x29), none, none, some (yi x110), some (yi x40), none, none, none]) (qw_s (qw_s (qw_s (qw_s (qw_n (qw_s (qw_s (qw_s (qw_s (qw_n (qw_n (qw_s (qw_s (qw_n (qw_n (qw_n (qw_0))))))))))))))))) h))
                              ·
                                refine y_iconst hX 452 (-1) rfl (by decide) ?_
                                exact y_exit (fun w h => yj_goto hX 453 rfl (by decide) (yj_wk (ρ' := [some (va_rf p1), some (.ref (qx_ad X 0)), some (va_rf s20.1), some (va_rf s20.2.1), none, some (yi s20.2.2.2), some (yi x22), some (va_rf x24), some (yi x29), none, none, some (yi x110), some (yi x40), none, none, none]) (qw_s (qw_s (qw_s (qw_s (qw_n (qw_s (qw_s (qw_s (qw_s (qw_n (qw_n (qw_s (qw_s (qw_n (qw_n (qw_n (qw_0))))))))))))))))) h))
                            · intro s112
                              refine y_join (S := Int) 933 (fun s114 => [some (va_rf p1), some (.ref (qx_ad X 0)), some (va_rf s20.1), some (va_rf s20.2.1), none, some (yi s20.2.2.2), some (yi x22), some (va_rf x24), some (yi x29), none, none, some (yi x110), some (yi x40), none, none, none]) (fun s114 => [yi s114]) ?_ ?_
                              ·
                                refine y_icne hX 462 932 rfl (by decide) ?_ ?_
                                ·
                                  refine y_iconst hX 465 0 rfl (by decide) ?_
                                  exact y_exit (fun w h => yj_wk (ρ' := [some (va_rf p1), some (.ref (qx_ad X 0)), some (va_rf s20.1), some (va_rf s20.2.1), none, some (yi s20.2.2.2), some (yi x22), some (va_rf x24), some (yi x29), none, none, some (yi x110), some (yi x40), none, none, none]) (qw_s (qw_s (qw_s (qw_s (qw_n (qw_s (qw_s (qw_s (qw_s (qw_n (qw_n (qw_s (qw_s (qw_n (qw_n (qw_n (qw_0))))))))))))))))) h)
                                ·
                                  refine y_iconst hX 463 1 rfl (by decide) ?_
                                  exact y_exit (fun w h => yj_goto hX 464 rfl (by decide) (yj_wk (ρ' := [some (va_rf p1), some (.ref (qx_ad X 0)), some (va_rf s20.1), some (va_rf s20.2.1), none, some (yi s20.2.2.2), some (yi x22), some (va_rf x24), some (yi x29), none, none, some (yi x110), some (yi x40), none, none, none]) (qw_s (qw_s (qw_s (qw_s (qw_n (qw_s (qw_s (qw_s (qw_s (qw_n (qw_n (qw_s (qw_s (qw_n (qw_n (qw_n (qw_0))))))))))))))))) h))
                              · intro s114
                                refine y_istore hX 466 (fun x115 => [some (va_rf p1), some (.ref (qx_ad X 0)), some (va_rf s20.1), some (va_rf s20.2.1), some (yi x115), some (yi s20.2.2.2), some (yi x22), some (va_rf x24), some (yi x29), none, none, some (yi x110), some (yi x40), none, none, none]) rfl (by decide) (fun _ => rfl) (fun x115 => ?_)
                                refine y_iload hX 467 rfl rfl ?_
                                refine y_ifeq hX 468 1152 rfl (by decide) ?_ ?_
                                ·
                                  exact y_exit (fun w h => yj_wk (ρ' := [some (va_rf p1), some (.ref (qx_ad X 0)), some (va_rf s20.1), some (va_rf s20.2.1), some (yi x115), some (yi s20.2.2.2), some (yi x22), some (va_rf x24), none, none, none, some (yi x110), some (yi x40), none, none, none]) (qw_s (qw_s (qw_s (qw_s (qw_s (qw_s (qw_s (qw_s (qw_n (qw_n (qw_n (qw_s (qw_s (qw_n (qw_n (qw_n (qw_0))))))))))))))))) h)
                                ·
                                  refine y_aload_n hX 469 rfl rfl ?_
                                  refine y_aload_n hX 470 rfl rfl ?_
                                  refine y_getNR hX 471 (t := 10) (j := 2) rfl yfl_Law_52 (by decide) (by decide +kernel) (fun x116 => ?_)
                                  refine y_iload hX 472 rfl rfl ?_
                                  refine y_aald hX 473 (t := 4) (by decide) rfl (fun x117 => ?_)
                                  refine y_clone hX 474 rfl yct_Law_167 yct_1 yct_2 yct_3 yct_4 ⟨by decide, by decide⟩ (Nat.le_trans (y_cs (yc_D _) y_cn) (by decide)) (fun x118 => ?_)
                                  refine y_castI hX 475 rfl ycl_Law_168 ?_
                                  refine y_aload_n hX 476 rfl rfl ?_
                                  refine y_getNR hX 477 (t := 10) (j := 3) rfl yfl_Law_59 (by decide) (by decide +kernel) (fun x119 => ?_)
                                  refine y_iload hX 478 rfl rfl ?_
                                  refine y_aald hX 479 (t := 4) (by decide) rfl (fun x120 => ?_)
                                  refine y_calV hX y_gRo (y_hrVo hX 480 (t := 10) (As := [va_rf x118, va_rf x120]) (a := s20.1) rfl ycw_Law_172 (fun p e => by first | (cases e; exact km_LRun_adds (yk_G hX) p x118 x120) | (rw [e]; exact km_LRun_adds (yk_G hX) p x118 x120)) (by decide) ⟨rfl, rfl, rfl, by decide, by decide⟩ rfl (Nat.le_trans y_cn (by decide))) ?_
                                  exact y_exit (fun w h => yj_goto hX 481 rfl (by decide) (yj_wk (ρ' := [some (va_rf p1), some (.ref (qx_ad X 0)), some (va_rf s20.1), some (va_rf s20.2.1), some (yi x115), some (yi s20.2.2.2), some (yi x22), some (va_rf x24), none, none, none, some (yi x110), some (yi x40), none, none, none]) (qw_s (qw_s (qw_s (qw_s (qw_s (qw_s (qw_s (qw_s (qw_n (qw_n (qw_n (qw_s (qw_s (qw_n (qw_n (qw_n (qw_0))))))))))))))))) h))
                        refine y_swc 8 ?_ (fun h8 => ?_)
                        ·
                          refine y_tin hX 124 967 rfl (by decide) (by decide) rfl (by decide) ?_
                          refine y_iload hX 482 rfl rfl ?_
                          refine y_istore hX 483 (fun x122 => [some (va_rf p1), some (.ref (qx_ad X 0)), some (va_rf s20.1), some (va_rf s20.2.1), none, some (yi s20.2.2.2), some (yi x22), some (va_rf x24), some (yi x29), some (yi x32), some (yi x38), some (yi x122), some (yi x40), none, none, none]) rfl (by decide) (fun _ => rfl) (fun x122 => ?_)
                          refine y_rload_n hX 484 rfl rfl ?_
                          refine y_iload hX 485 rfl rfl ?_
                          refine y_objI (xs := ([x29] : List Int)) (m0 := jf_Top_drop 0 (Int32.ofInt x29)) hX 486 (a := 0) (ci := 8) (As := [yi x29]) rfl ycv_Law_176 (jm_Top_drop (qk_GI hX.1) 0 (Int32.ofInt x29) (by decide +kernel)) (fun h => is_Top_drop (yi_toInt (h _ (by simp)))) (by decide +kernel) ⟨rfl, rfl, rfl, by decide, by decide⟩ rfl (Nat.le_trans y_cn (by decide)) (fun x123 => ?_)
                          refine y_iload hX 487 rfl rfl ?_
                          refine y_join (S := Int) 992 (fun s124 => [some (va_rf p1), some (.ref (qx_ad X 0)), some (va_rf s20.1), some (va_rf s20.2.1), none, some (yi s20.2.2.2), some (yi x22), some (va_rf x24), some (yi x29), some (yi x32), none, some (yi x122), some (yi x40), none, none, none]) (fun s124 => [yi s124, yi x123]) ?_ ?_
                          ·
                            refine y_ifeq hX 488 991 rfl (by decide) ?_ ?_
                            ·
                              refine y_iconst hX 494 (-1) rfl (by decide) ?_
                              exact y_exit (fun w h => yj_wk (ρ' := [some (va_rf p1), some (.ref (qx_ad X 0)), some (va_rf s20.1), some (va_rf s20.2.1), none, some (yi s20.2.2.2), some (yi x22), some (va_rf x24), some (yi x29), some (yi x32), none, some (yi x122), some (yi x40), none, none, none]) (qw_s (qw_s (qw_s (qw_s (qw_n (qw_s (qw_s (qw_s (qw_s (qw_s (qw_n (qw_s (qw_s (qw_n (qw_n (qw_n (qw_0))))))))))))))))) h)
                            ·
                              refine y_aload_n hX 489 rfl rfl ?_
                              refine y_getN hX 490 (t := 10) (j := 1) rfl yfl_Law_36 (by decide) (by decide +kernel) (fun x125 => ?_)
                              refine y_iconst hX 491 1 rfl (by decide) ?_
                              refine y_isub hX 492 rfl ?_
                              exact y_exit (fun w h => yj_goto hX 493 rfl (by decide) (yj_wk (ρ' := [some (va_rf p1), some (.ref (qx_ad X 0)), some (va_rf s20.1), some (va_rf s20.2.1), none, some (yi s20.2.2.2), some (yi x22), some (va_rf x24), some (yi x29), some (yi x32), none, some (yi x122), some (yi x40), none, none, none]) (qw_s (qw_s (qw_s (qw_s (qw_n (qw_s (qw_s (qw_s (qw_s (qw_s (qw_n (qw_s (qw_s (qw_n (qw_n (qw_n (qw_0))))))))))))))))) h))
                          · intro s124
                            refine y_join (S := Int) 1000 (fun s126 => [some (va_rf p1), some (.ref (qx_ad X 0)), some (va_rf s20.1), some (va_rf s20.2.1), none, some (yi s20.2.2.2), some (yi x22), some (va_rf x24), some (yi x29), some (yi x32), none, some (yi x122), some (yi x40), none, none, none]) (fun s126 => [yi s126]) ?_ ?_
                            ·
                              refine y_icne hX 495 999 rfl (by decide) ?_ ?_
                              ·
                                refine y_iconst hX 498 0 rfl (by decide) ?_
                                exact y_exit (fun w h => yj_wk (ρ' := [some (va_rf p1), some (.ref (qx_ad X 0)), some (va_rf s20.1), some (va_rf s20.2.1), none, some (yi s20.2.2.2), some (yi x22), some (va_rf x24), some (yi x29), some (yi x32), none, some (yi x122), some (yi x40), none, none, none]) (qw_s (qw_s (qw_s (qw_s (qw_n (qw_s (qw_s (qw_s (qw_s (qw_s (qw_n (qw_s (qw_s (qw_n (qw_n (qw_n (qw_0))))))))))))))))) h)
                              ·
                                refine y_iconst hX 496 1 rfl (by decide) ?_
                                exact y_exit (fun w h => yj_goto hX 497 rfl (by decide) (yj_wk (ρ' := [some (va_rf p1), some (.ref (qx_ad X 0)), some (va_rf s20.1), some (va_rf s20.2.1), none, some (yi s20.2.2.2), some (yi x22), some (va_rf x24), some (yi x29), some (yi x32), none, some (yi x122), some (yi x40), none, none, none]) (qw_s (qw_s (qw_s (qw_s (qw_n (qw_s (qw_s (qw_s (qw_s (qw_s (qw_n (qw_s (qw_s (qw_n (qw_n (qw_n (qw_0))))))))))))))))) h))
                            · intro s126
                              refine y_istore hX 499 (fun x127 => [some (va_rf p1), some (.ref (qx_ad X 0)), some (va_rf s20.1), some (va_rf s20.2.1), some (yi x127), some (yi s20.2.2.2), some (yi x22), some (va_rf x24), some (yi x29), some (yi x32), none, some (yi x122), some (yi x40), none, none, none]) rfl (by decide) (fun _ => rfl) (fun x127 => ?_)
                              refine y_iload hX 500 rfl rfl ?_
                              refine y_ifne hX 501 1010 rfl (by decide) ?_ ?_
                              ·
                                refine y_iload hX 503 rfl rfl ?_
                                refine y_istore hX 504 (fun x128 => [some (va_rf p1), some (.ref (qx_ad X 0)), some (va_rf s20.1), some (va_rf s20.2.1), some (yi x127), some (yi s20.2.2.2), some (yi x22), some (va_rf x24), some (yi x29), some (yi x32), none, some (yi x122), some (yi x40), some (yi x128), none, none]) rfl (by decide) (fun _ => rfl) (fun x128 => ?_)
                                refine y_join (S := Unit) 1063 (fun s129 => [some (va_rf p1), some (.ref (qx_ad X 0)), some (va_rf s20.1), some (va_rf s20.2.1), some (yi x127), some (yi s20.2.2.2), some (yi x22), some (va_rf x24), none, none, none, some (yi x122), some (yi x40), none, none, none]) (fun s129 => []) ?_ ?_
                                ·
                                  refine y_loopw (S := Int) (x128) (fun s130 => [some (va_rf p1), some (.ref (qx_ad X 0)), some (va_rf s20.1), some (va_rf s20.2.1), some (yi x127), some (yi s20.2.2.2), some (yi x22), some (va_rf x24), none, none, none, some (yi x122), some (yi x40), some (yi s130), none, none]) (qw_s (qw_s (qw_s (qw_s (qw_s (qw_s (qw_s (qw_s (qw_n (qw_n (qw_n (qw_s (qw_s (qw_s (qw_n (qw_n (qw_0))))))))))))))))) (fun s130 => ?_)
                                  refine y_iload hX 505 rfl rfl ?_
                                  refine y_iconst hX 506 1 rfl (by decide) ?_
                                  refine y_iadd hX 507 rfl ?_
                                  refine y_aload_n hX 508 rfl rfl ?_
                                  refine y_getN hX 509 (t := 10) (j := 1) rfl yfl_Law_36 (by decide) (by decide +kernel) (fun x131 => ?_)
                                  refine y_icge hX 510 1063 rfl (by decide) ?_ ?_
                                  ·
                                    exact y_exit (fun w h => yj_wk (ρ' := [some (va_rf p1), some (.ref (qx_ad X 0)), some (va_rf s20.1), some (va_rf s20.2.1), some (yi x127), some (yi s20.2.2.2), some (yi x22), some (va_rf x24), none, none, none, some (yi x122), some (yi x40), none, none, none]) (qw_s (qw_s (qw_s (qw_s (qw_s (qw_s (qw_s (qw_s (qw_n (qw_n (qw_n (qw_s (qw_s (qw_n (qw_n (qw_n (qw_0))))))))))))))))) h)
                                  ·
                                    refine y_aload_n hX 511 rfl rfl ?_
                                    refine y_getNR hX 512 (t := 10) (j := 2) rfl yfl_Law_52 (by decide) (by decide +kernel) (fun x132 => ?_)
                                    refine y_iload hX 513 rfl rfl ?_
                                    refine y_aload_n hX 514 rfl rfl ?_
                                    refine y_getNR hX 515 (t := 10) (j := 2) rfl yfl_Law_52 (by decide) (by decide +kernel) (fun x133 => ?_)
                                    refine y_iload hX 516 rfl rfl ?_
                                    refine y_iconst hX 517 1 rfl (by decide) ?_
                                    refine y_iadd hX 518 rfl ?_
                                    refine y_aald hX 519 (t := 4) (by decide) rfl (fun x134 => ?_)
                                    refine y_aast hX 520 (t := 4) (t' := 1) (by decide) rfl ?_
                                    refine y_aload_n hX 521 rfl rfl ?_
                                    refine y_getNR hX 522 (t := 10) (j := 3) rfl yfl_Law_59 (by decide) (by decide +kernel) (fun x135 => ?_)
                                    refine y_iload hX 523 rfl rfl ?_
                                    refine y_aload_n hX 524 rfl rfl ?_
                                    refine y_getNR hX 525 (t := 10) (j := 3) rfl yfl_Law_59 (by decide) (by decide +kernel) (fun x136 => ?_)
                                    refine y_iload hX 526 rfl rfl ?_
                                    refine y_iconst hX 527 1 rfl (by decide) ?_
                                    refine y_iadd hX 528 rfl ?_
                                    refine y_aald hX 529 (t := 4) (by decide) rfl (fun x137 => ?_)
                                    refine y_aast hX 530 (t := 4) (t' := 1) (by decide) rfl ?_
                                    refine y_iinc hX 531 (fun x138 => [some (va_rf p1), some (.ref (qx_ad X 0)), some (va_rf s20.1), some (va_rf s20.2.1), some (yi x127), some (yi s20.2.2.2), some (yi x22), some (va_rf x24), none, none, none, some (yi x122), some (yi x40), some (yi x138), none, none]) rfl (by decide) rfl (fun _ => rfl) (fun x138 => ?_)
                                    exact y_exit (fun w h => yj_goto hX 532 rfl (by decide) (yj_wk (ρ' := [some (va_rf p1), some (.ref (qx_ad X 0)), some (va_rf s20.1), some (va_rf s20.2.1), some (yi x127), some (yi s20.2.2.2), some (yi x22), some (va_rf x24), none, none, none, some (yi x122), some (yi x40), some (yi x138), none, none]) (qw_s (qw_s (qw_s (qw_s (qw_s (qw_s (qw_s (qw_s (qw_n (qw_n (qw_n (qw_s (qw_s (qw_s (qw_n (qw_n (qw_0))))))))))))))))) h))
                                · intro s129
                                  refine y_aload_n hX 533 rfl rfl ?_
                                  refine y_dup hX 534 rfl (yc_D _) ?_
                                  refine y_getN hX 535 (t := 10) (j := 1) rfl yfl_Law_36 (by decide) (by decide +kernel) (fun x139 => ?_)
                                  refine y_iconst hX 536 1 rfl (by decide) ?_
                                  refine y_isub hX 537 rfl ?_
                                  refine y_putI hX 538 2 (t := 10) (j := 1) rfl yfp_Law_36 (fun h => absurd h (by decide)) (by decide) (by decide +kernel) ?_
                                  exact y_exit (fun w h => yj_goto hX 539 rfl (by decide) (yj_wk (ρ' := [some (va_rf p1), some (.ref (qx_ad X 0)), some (va_rf s20.1), some (va_rf s20.2.1), some (yi x127), some (yi s20.2.2.2), some (yi x22), some (va_rf x24), none, none, none, some (yi x122), some (yi x40), none, none, none]) (qw_s (qw_s (qw_s (qw_s (qw_s (qw_s (qw_s (qw_s (qw_n (qw_n (qw_n (qw_s (qw_s (qw_n (qw_n (qw_n (qw_0))))))))))))))))) h))
                              ·
                                exact y_exit (fun w h => yj_goto hX 502 rfl (by decide) (yj_wk (ρ' := [some (va_rf p1), some (.ref (qx_ad X 0)), some (va_rf s20.1), some (va_rf s20.2.1), some (yi x127), some (yi s20.2.2.2), some (yi x22), some (va_rf x24), none, none, none, some (yi x122), some (yi x40), none, none, none]) (qw_s (qw_s (qw_s (qw_s (qw_s (qw_s (qw_s (qw_s (qw_n (qw_n (qw_n (qw_s (qw_s (qw_n (qw_n (qw_n (qw_0))))))))))))))))) h))
                        refine y_tout hX 124 1076 rfl hx (by omega) (by decide) ?_
                        refine y_iconst hX 540 0 rfl (by decide) ?_
                        refine y_istore hX 541 (fun x140 => [some (va_rf p1), some (.ref (qx_ad X 0)), some (va_rf s20.1), some (va_rf s20.2.1), none, some (yi s20.2.2.2), some (yi x22), some (va_rf x24), some (yi x29), some (yi x32), some (yi x38), some (yi x140), some (yi x40), none, none, none]) rfl (by decide) (fun _ => rfl) (fun x140 => ?_)
                        refine y_iload hX 542 rfl rfl ?_
                        refine y_bipush hX 543 8 rfl (by decide) ?_
                        refine y_iushr hX 544 rfl ?_
                        refine y_iconst hX 545 1 rfl (by decide) ?_
                        refine y_iand hX 546 rfl ?_
                        refine y_join2 (S := Unit) 1093 (fun s141 => [some (va_rf p1), some (.ref (qx_ad X 0)), some (va_rf s20.1), none, none, some (yi s20.2.2.2), some (yi x22), some (va_rf x24), none, none, none, some (yi x140), some (yi x40), none, none, none]) (fun s141 => []) ?_ ?_
                        ·
                          refine y_ifeq hX 547 1093 rfl (by decide) ?_ ?_
                          ·
                            exact y_exit (fun w h => yj_wk (ρ' := [some (va_rf p1), some (.ref (qx_ad X 0)), some (va_rf s20.1), none, none, some (yi s20.2.2.2), some (yi x22), some (va_rf x24), none, none, none, some (yi x140), some (yi x40), none, none, none]) (qw_s (qw_s (qw_s (qw_n (qw_n (qw_s (qw_s (qw_s (qw_n (qw_n (qw_n (qw_s (qw_s (qw_n (qw_n (qw_n (qw_0))))))))))))))))) h)
                          ·
                            refine y_aload_n hX 548 rfl rfl ?_
                            refine y_ifnonnull hX 549 1120 rfl (by decide) ?_ ?_
                            ·
                              refine y_rload_n hX 564 rfl rfl ?_
                              refine y_iconst hX 565 0 rfl (by decide) ?_
                              refine y_objI (xs := ([(0 : Int)] : List Int)) (m0 := jf_Top_back 0 (Int32.ofInt (0 : Int))) hX 566 (a := 0) (ci := 8) (As := [yi (0 : Int)]) rfl ycv_Law_110 (jm_Top_back (qk_GI hX.1) 0 (Int32.ofInt (0 : Int)) (by decide +kernel)) (fun h => is_Top_back (yi_toInt (h _ (by simp)))) (by decide +kernel) ⟨rfl, rfl, rfl, by decide, by decide⟩ rfl (Nat.le_trans y_cn (by decide)) (fun x142 => ?_)
                              refine y_aload_n hX 567 rfl rfl ?_
                              refine y_getN hX 568 (t := 10) (j := 1) rfl yfl_Law_36 (by decide) (by decide +kernel) (fun x143 => ?_)
                              refine y_join (S := Int) 1145 (fun s144 => [some (va_rf p1), some (.ref (qx_ad X 0)), none, some (va_rf s20.2.1), none, some (yi s20.2.2.2), some (yi x22), some (va_rf x24), none, none, none, some (yi x140), some (yi x40), none, none, none]) (fun s144 => [yi s144]) ?_ ?_
                              ·
                                refine y_join2 (S := Unit) 1144 (fun s145 => [some (va_rf p1), some (.ref (qx_ad X 0)), none, some (va_rf s20.2.1), none, some (yi s20.2.2.2), some (yi x22), some (va_rf x24), none, none, none, some (yi x140), some (yi x40), none, none, none]) (fun s145 => []) ?_ ?_
                                ·
                                  refine y_icne hX 569 1144 rfl (by decide) ?_ ?_
                                  ·
                                    exact y_exit (fun w h => yj_wk (ρ' := [some (va_rf p1), some (.ref (qx_ad X 0)), none, some (va_rf s20.2.1), none, some (yi s20.2.2.2), some (yi x22), some (va_rf x24), none, none, none, some (yi x140), some (yi x40), none, none, none]) (qw_s (qw_s (qw_n (qw_s (qw_n (qw_s (qw_s (qw_s (qw_n (qw_n (qw_n (qw_s (qw_s (qw_n (qw_n (qw_n (qw_0))))))))))))))))) h)
                                  ·
                                    refine y_rload_n hX 570 rfl rfl ?_
                                    refine y_iconst hX 571 4 rfl (by decide) ?_
                                    refine y_objI (xs := ([(4 : Int)] : List Int)) (m0 := jf_Top_count 0 (Int32.ofInt (4 : Int))) hX 572 (a := 0) (ci := 8) (As := [yi (4 : Int)]) rfl ycv_Law_33 (jm_Top_count (qk_GI hX.1) 0 (Int32.ofInt (4 : Int)) (by decide +kernel)) (fun h => is_Top_count (yi_toInt (h _ (by simp)))) (by decide +kernel) ⟨rfl, rfl, rfl, by decide, by decide⟩ rfl (Nat.le_trans y_cn (by decide)) (fun x146 => ?_)
                                    refine y_ifne hX 573 1144 rfl (by decide) ?_ ?_
                                    ·
                                      exact y_exit (fun w h => yj_wk (ρ' := [some (va_rf p1), some (.ref (qx_ad X 0)), none, some (va_rf s20.2.1), none, some (yi s20.2.2.2), some (yi x22), some (va_rf x24), none, none, none, some (yi x140), some (yi x40), none, none, none]) (qw_s (qw_s (qw_n (qw_s (qw_n (qw_s (qw_s (qw_s (qw_n (qw_n (qw_n (qw_s (qw_s (qw_n (qw_n (qw_n (qw_0))))))))))))))))) h)
                                    ·
                                      refine y_iconst hX 574 1 rfl (by decide) ?_
                                      exact y_exit (fun w h => yj_goto hX 575 rfl (by decide) (yj_wk (ρ' := [some (va_rf p1), some (.ref (qx_ad X 0)), none, some (va_rf s20.2.1), none, some (yi s20.2.2.2), some (yi x22), some (va_rf x24), none, none, none, some (yi x140), some (yi x40), none, none, none]) (qw_s (qw_s (qw_n (qw_s (qw_n (qw_s (qw_s (qw_s (qw_n (qw_n (qw_n (qw_s (qw_s (qw_n (qw_n (qw_n (qw_0))))))))))))))))) h))
                                · intro s145
                                  refine y_iconst hX 576 0 rfl (by decide) ?_
                                  exact y_exit (fun w h => yj_wk (ρ' := [some (va_rf p1), some (.ref (qx_ad X 0)), none, some (va_rf s20.2.1), none, some (yi s20.2.2.2), some (yi x22), some (va_rf x24), none, none, none, some (yi x140), some (yi x40), none, none, none]) (qw_s (qw_s (qw_n (qw_s (qw_n (qw_s (qw_s (qw_s (qw_n (qw_n (qw_n (qw_s (qw_s (qw_n (qw_n (qw_n (qw_0))))))))))))))))) h)
                              · intro s144
                                refine y_istore hX 577 (fun x147 => [some (va_rf p1), some (.ref (qx_ad X 0)), none, some (va_rf s20.2.1), some (yi x147), some (yi s20.2.2.2), some (yi x22), some (va_rf x24), none, none, none, some (yi x140), some (yi x40), none, none, none]) rfl (by decide) (fun _ => rfl) (fun x147 => ?_)
                                refine y_aload_n hX 578 rfl rfl ?_
                                refine y_calR hX y_gRo (y_hrVo hX 579 (t := 10) (As := []) (a := s20.2.1) rfl ycw_Law_138 (fun p e => by first | (cases e; exact km_LRun_copy (yk_G hX) p) | (rw [e]; exact km_LRun_copy (yk_G hX) p)) (by decide) ⟨rfl, rfl, rfl, by decide, by decide⟩ rfl (Nat.le_trans y_cn (by decide))) (fun x148 => ?_)
                                refine y_astore_n hX 580 (fun x149 => [some (va_rf p1), some (.ref (qx_ad X 0)), some (va_rf x149), some (va_rf s20.2.1), some (yi x147), some (yi s20.2.2.2), some (yi x22), some (va_rf x24), none, none, none, some (yi x140), some (yi x40), none, none, none]) rfl (by decide) (fun _ => rfl) (fun x149 => ?_)
                                exact y_exit (fun w h => yj_wk (ρ' := [some (va_rf p1), some (.ref (qx_ad X 0)), some (va_rf x149), some (va_rf s20.2.1), some (yi x147), some (yi s20.2.2.2), some (yi x22), some (va_rf x24), none, none, none, some (yi x140), some (yi x40), none, none, none]) (qw_s (qw_s (qw_s (qw_s (qw_s (qw_s (qw_s (qw_s (qw_n (qw_n (qw_n (qw_s (qw_s (qw_n (qw_n (qw_n (qw_0))))))))))))))))) h)
                            ·
                              exact y_exit (fun w h => yj_wk (ρ' := [some (va_rf p1), some (.ref (qx_ad X 0)), some (va_rf s20.1), none, none, some (yi s20.2.2.2), some (yi x22), some (va_rf x24), none, none, none, some (yi x140), some (yi x40), none, none, none]) (qw_s (qw_s (qw_s (qw_n (qw_n (qw_s (qw_s (qw_s (qw_n (qw_n (qw_n (qw_s (qw_s (qw_n (qw_n (qw_n (qw_0))))))))))))))))) h)
                        · intro s141
                          refine y_rload_n hX 550 rfl rfl ?_
                          refine y_iconst hX 551 0 rfl (by decide) ?_
                          refine y_objI (xs := ([(0 : Int)] : List Int)) (m0 := jf_Top_keep 0 (Int32.ofInt (0 : Int))) hX 552 (a := 0) (ci := 8) (As := [yi (0 : Int)]) rfl ycv_Law_113 (jm_Top_keep (qk_GI hX.1) 0 (Int32.ofInt (0 : Int)) (by decide +kernel)) (fun h => is_Top_keep (yi_toInt (h _ (by simp)))) (by decide +kernel) ⟨rfl, rfl, rfl, by decide, by decide⟩ rfl (Nat.le_trans y_cn (by decide)) (fun x150 => ?_)
                          refine y_aload_n hX 553 rfl rfl ?_
                          refine y_getN hX 554 (t := 10) (j := 1) rfl yfl_Law_36 (by decide) (by decide +kernel) (fun x151 => ?_)
                          refine y_join (S := Int) 1110 (fun s152 => [some (va_rf p1), some (.ref (qx_ad X 0)), some (va_rf s20.1), none, none, some (yi s20.2.2.2), some (yi x22), some (va_rf x24), none, none, none, some (yi x140), some (yi x40), none, none, none]) (fun s152 => [yi s152]) ?_ ?_
                          ·
                            refine y_icne hX 555 1109 rfl (by decide) ?_ ?_
                            ·
                              refine y_iconst hX 558 0 rfl (by decide) ?_
                              exact y_exit (fun w h => yj_wk (ρ' := [some (va_rf p1), some (.ref (qx_ad X 0)), some (va_rf s20.1), none, none, some (yi s20.2.2.2), some (yi x22), some (va_rf x24), none, none, none, some (yi x140), some (yi x40), none, none, none]) (qw_s (qw_s (qw_s (qw_n (qw_n (qw_s (qw_s (qw_s (qw_n (qw_n (qw_n (qw_s (qw_s (qw_n (qw_n (qw_n (qw_0))))))))))))))))) h)
                            ·
                              refine y_iconst hX 556 1 rfl (by decide) ?_
                              exact y_exit (fun w h => yj_goto hX 557 rfl (by decide) (yj_wk (ρ' := [some (va_rf p1), some (.ref (qx_ad X 0)), some (va_rf s20.1), none, none, some (yi s20.2.2.2), some (yi x22), some (va_rf x24), none, none, none, some (yi x140), some (yi x40), none, none, none]) (qw_s (qw_s (qw_s (qw_n (qw_n (qw_s (qw_s (qw_s (qw_n (qw_n (qw_n (qw_s (qw_s (qw_n (qw_n (qw_n (qw_0))))))))))))))))) h))
                          · intro s152
                            refine y_istore hX 559 (fun x153 => [some (va_rf p1), some (.ref (qx_ad X 0)), some (va_rf s20.1), none, some (yi x153), some (yi s20.2.2.2), some (yi x22), some (va_rf x24), none, none, none, some (yi x140), some (yi x40), none, none, none]) rfl (by decide) (fun _ => rfl) (fun x153 => ?_)
                            refine y_aload_n hX 560 rfl rfl ?_
                            refine y_calR hX y_gRo (y_hrVo hX 561 (t := 10) (As := []) (a := s20.1) rfl ycw_Law_138 (fun p e => by first | (cases e; exact km_LRun_copy (yk_G hX) p) | (rw [e]; exact km_LRun_copy (yk_G hX) p)) (by decide) ⟨rfl, rfl, rfl, by decide, by decide⟩ rfl (Nat.le_trans y_cn (by decide))) (fun x154 => ?_)
                            refine y_astore_n hX 562 (fun x155 => [some (va_rf p1), some (.ref (qx_ad X 0)), some (va_rf s20.1), some (va_rf x155), some (yi x153), some (yi s20.2.2.2), some (yi x22), some (va_rf x24), none, none, none, some (yi x140), some (yi x40), none, none, none]) rfl (by decide) (fun _ => rfl) (fun x155 => ?_)
                            exact y_exit (fun w h => yj_goto hX 563 rfl (by decide) (yj_wk (ρ' := [some (va_rf p1), some (.ref (qx_ad X 0)), some (va_rf s20.1), some (va_rf x155), some (yi x153), some (yi s20.2.2.2), some (yi x22), some (va_rf x24), none, none, none, some (yi x140), some (yi x40), none, none, none]) (qw_s (qw_s (qw_s (qw_s (qw_s (qw_s (qw_s (qw_s (qw_n (qw_n (qw_n (qw_s (qw_s (qw_n (qw_n (qw_n (qw_0))))))))))))))))) h))
                      · intro s45
                        refine y_aload_n hX 125 rfl rfl ?_
                        refine y_bipush hX 126 40 rfl (by decide) ?_
                        refine y_bipush hX 127 20 rfl (by decide) ?_
                        refine y_iload hX 128 rfl rfl ?_
                        refine y_imul hX 129 rfl ?_
                        refine y_iadd hX 130 rfl ?_
                        refine y_bipush hX 131 6 rfl (by decide) ?_
                        refine y_calR hX y_gK (y_hrS hX 132 (As := [va_rf p1, yi ((40 : Int) + ((20 : Int) * s20.2.2.2)), yi (6 : Int)]) rfl ycw_Law_142 (km_LRun_some (yk_G hX) p1 ((40 : Int) + ((20 : Int) * s20.2.2.2)) (6 : Int)) ⟨rfl, by decide, by decide⟩ rfl (Nat.le_trans y_cn (by decide))) (fun x156 => ?_)
                        refine y_astore_n hX 133 (fun x157 => [some (va_rf p1), some (.ref (qx_ad X 0)), some (va_rf x157), some (va_rf s20.2.1), none, some (yi s20.2.2.2), some (yi x22), some (va_rf x24), none, none, none, some (yi x39), none, none, none, none]) rfl (by decide) (fun _ => rfl) (fun x157 => ?_)
                        refine y_iconst hX 134 1 rfl (by decide) ?_
                        refine y_istore hX 135 (fun x158 => [some (va_rf p1), some (.ref (qx_ad X 0)), some (va_rf x157), some (va_rf s20.2.1), none, some (yi s20.2.2.2), some (yi x22), some (va_rf x24), none, none, none, some (yi x39), some (yi x158), none, none, none]) rfl (by decide) (fun _ => rfl) (fun x158 => ?_)
                        refine y_rload_n hX 136 rfl rfl ?_
                        refine y_aload_n hX 137 rfl rfl ?_
                        refine y_calR hX y_gRo (y_hrVo hX 138 (t := 10) (As := []) (a := x157) rfl ycw_Law_146 (fun p e => by first | (cases e; exact km_LRun_told (yk_G hX) p) | (rw [e]; exact km_LRun_told (yk_G hX) p)) (by decide) ⟨rfl, rfl, rfl, by decide, by decide⟩ rfl (Nat.le_trans (y_cs (yc_O _) y_cn) (by decide))) (fun x159 => ?_)
                        refine y_calI hX y_gK (y_hrS hX 139 (As := [.ref (qx_ad X 0), va_rf x159]) rfl ycw_Law_150 (km_Law_says (yk_G hX) x159) ⟨rfl, by decide, by decide⟩ rfl (Nat.le_trans y_cn (by decide))) (fun x160 => ?_)
                        refine y_join (S := Int) 341 (fun s161 => [some (va_rf p1), some (.ref (qx_ad X 0)), some (va_rf x157), some (va_rf s20.2.1), none, some (yi s20.2.2.2), some (yi x22), some (va_rf x24), none, none, none, some (yi x39), some (yi x158), none, none, none]) (fun s161 => [yi s161]) ?_ ?_
                        ·
                          refine y_join2 (S := Unit) 340 (fun s162 => [some (va_rf p1), some (.ref (qx_ad X 0)), some (va_rf x157), some (va_rf s20.2.1), none, some (yi s20.2.2.2), some (yi x22), some (va_rf x24), none, none, none, some (yi x39), some (yi x158), none, none, none]) (fun s162 => []) ?_ ?_
                          ·
                            refine y_ifeq hX 140 340 rfl (by decide) ?_ ?_
                            ·
                              exact y_exit (fun w h => yj_wk (ρ' := [some (va_rf p1), some (.ref (qx_ad X 0)), some (va_rf x157), some (va_rf s20.2.1), none, some (yi s20.2.2.2), some (yi x22), some (va_rf x24), none, none, none, some (yi x39), some (yi x158), none, none, none]) (qw_s (qw_s (qw_s (qw_s (qw_n (qw_s (qw_s (qw_s (qw_n (qw_n (qw_n (qw_s (qw_s (qw_n (qw_n (qw_n (qw_0))))))))))))))))) h)
                            ·
                              refine y_rload_n hX 141 rfl rfl ?_
                              refine y_objI (xs := ([] : List Int)) (m0 := jf_Top_tell 0) hX 142 (a := 0) (ci := 8) (As := []) rfl ycv_Law_154 (jm_Top_tell (qk_GI hX.1) 0 (by decide +kernel)) (fun h => is_Top_tell) (by decide +kernel) ⟨rfl, rfl, rfl, by decide, by decide⟩ rfl (Nat.le_trans y_cn (by decide)) (fun x163 => ?_)
                              refine y_aload_n hX 143 rfl rfl ?_
                              refine y_calI hX y_gRo (y_hrVo hX 144 (t := 10) (As := []) (a := x157) rfl ycw_Law_157 (fun p e => by first | (cases e; exact km_LRun_pieces (yk_G hX) p) | (rw [e]; exact km_LRun_pieces (yk_G hX) p)) (by decide) ⟨rfl, rfl, rfl, by decide, by decide⟩ rfl (Nat.le_trans (y_cs (yc_I _) y_cn) (by decide))) (fun x164 => ?_)
                              refine y_icne hX 145 340 rfl (by decide) ?_ ?_
                              ·
                                exact y_exit (fun w h => yj_wk (ρ' := [some (va_rf p1), some (.ref (qx_ad X 0)), some (va_rf x157), some (va_rf s20.2.1), none, some (yi s20.2.2.2), some (yi x22), some (va_rf x24), none, none, none, some (yi x39), some (yi x158), none, none, none]) (qw_s (qw_s (qw_s (qw_s (qw_n (qw_s (qw_s (qw_s (qw_n (qw_n (qw_n (qw_s (qw_s (qw_n (qw_n (qw_n (qw_0))))))))))))))))) h)
                              ·
                                refine y_rload_n hX 146 rfl rfl ?_
                                refine y_iconst hX 147 4 rfl (by decide) ?_
                                refine y_objI (xs := ([(4 : Int)] : List Int)) (m0 := jf_Top_count 0 (Int32.ofInt (4 : Int))) hX 148 (a := 0) (ci := 8) (As := [yi (4 : Int)]) rfl ycv_Law_33 (jm_Top_count (qk_GI hX.1) 0 (Int32.ofInt (4 : Int)) (by decide +kernel)) (fun h => is_Top_count (yi_toInt (h _ (by simp)))) (by decide +kernel) ⟨rfl, rfl, rfl, by decide, by decide⟩ rfl (Nat.le_trans y_cn (by decide)) (fun x165 => ?_)
                                refine y_ifne hX 149 340 rfl (by decide) ?_ ?_
                                ·
                                  exact y_exit (fun w h => yj_wk (ρ' := [some (va_rf p1), some (.ref (qx_ad X 0)), some (va_rf x157), some (va_rf s20.2.1), none, some (yi s20.2.2.2), some (yi x22), some (va_rf x24), none, none, none, some (yi x39), some (yi x158), none, none, none]) (qw_s (qw_s (qw_s (qw_s (qw_n (qw_s (qw_s (qw_s (qw_n (qw_n (qw_n (qw_s (qw_s (qw_n (qw_n (qw_n (qw_0))))))))))))))))) h)
                                ·
                                  refine y_rload_n hX 150 rfl rfl ?_
                                  refine y_iconst hX 151 5 rfl (by decide) ?_
                                  refine y_objI (xs := ([(5 : Int)] : List Int)) (m0 := jf_Top_count 0 (Int32.ofInt (5 : Int))) hX 152 (a := 0) (ci := 8) (As := [yi (5 : Int)]) rfl ycv_Law_33 (jm_Top_count (qk_GI hX.1) 0 (Int32.ofInt (5 : Int)) (by decide +kernel)) (fun h => is_Top_count (yi_toInt (h _ (by simp)))) (by decide +kernel) ⟨rfl, rfl, rfl, by decide, by decide⟩ rfl (Nat.le_trans y_cn (by decide)) (fun x166 => ?_)
                                  refine y_ifne hX 153 340 rfl (by decide) ?_ ?_
                                  ·
                                    exact y_exit (fun w h => yj_wk (ρ' := [some (va_rf p1), some (.ref (qx_ad X 0)), some (va_rf x157), some (va_rf s20.2.1), none, some (yi s20.2.2.2), some (yi x22), some (va_rf x24), none, none, none, some (yi x39), some (yi x158), none, none, none]) (qw_s (qw_s (qw_s (qw_s (qw_n (qw_s (qw_s (qw_s (qw_n (qw_n (qw_n (qw_s (qw_s (qw_n (qw_n (qw_n (qw_0))))))))))))))))) h)
                                  ·
                                    refine y_iconst hX 154 1 rfl (by decide) ?_
                                    exact y_exit (fun w h => yj_goto hX 155 rfl (by decide) (yj_wk (ρ' := [some (va_rf p1), some (.ref (qx_ad X 0)), some (va_rf x157), some (va_rf s20.2.1), none, some (yi s20.2.2.2), some (yi x22), some (va_rf x24), none, none, none, some (yi x39), some (yi x158), none, none, none]) (qw_s (qw_s (qw_s (qw_s (qw_n (qw_s (qw_s (qw_s (qw_n (qw_n (qw_n (qw_s (qw_s (qw_n (qw_n (qw_n (qw_0))))))))))))))))) h))
                          · intro s162
                            refine y_iconst hX 156 0 rfl (by decide) ?_
                            exact y_exit (fun w h => yj_wk (ρ' := [some (va_rf p1), some (.ref (qx_ad X 0)), some (va_rf x157), some (va_rf s20.2.1), none, some (yi s20.2.2.2), some (yi x22), some (va_rf x24), none, none, none, some (yi x39), some (yi x158), none, none, none]) (qw_s (qw_s (qw_s (qw_s (qw_n (qw_s (qw_s (qw_s (qw_n (qw_n (qw_n (qw_s (qw_s (qw_n (qw_n (qw_n (qw_0))))))))))))))))) h)
                        · intro s161
                          refine y_istore hX 157 (fun x167 => [some (va_rf p1), some (.ref (qx_ad X 0)), some (va_rf x157), some (va_rf s20.2.1), some (yi x167), some (yi s20.2.2.2), some (yi x22), some (va_rf x24), none, none, none, some (yi x39), some (yi x158), none, none, none]) rfl (by decide) (fun _ => rfl) (fun x167 => ?_)
                          exact y_exit (fun w h => yj_goto hX 158 rfl (by decide) (yj_wk (ρ' := [some (va_rf p1), some (.ref (qx_ad X 0)), some (va_rf x157), some (va_rf s20.2.1), some (yi x167), some (yi s20.2.2.2), some (yi x22), some (va_rf x24), none, none, none, some (yi x39), some (yi x158), none, none, none]) (qw_s (qw_s (qw_s (qw_s (qw_s (qw_s (qw_s (qw_s (qw_n (qw_n (qw_n (qw_s (qw_s (qw_n (qw_n (qw_n (qw_0))))))))))))))))) h))
                    · intro s44
                      refine y_iload hX 159 rfl rfl ?_
                      refine y_bipush hX 160 8 rfl (by decide) ?_
                      refine y_iushr hX 161 rfl ?_
                      refine y_bipush hX 162 8 rfl (by decide) ?_
                      refine y_irem hX 163 rfl (fun x168 => ?_)
                      refine y_istore hX 164 (fun x169 => [some (va_rf p1), some (.ref (qx_ad X 0)), some (va_rf s20.1), some (va_rf s20.2.1), none, some (yi s20.2.2.2), some (yi x22), some (va_rf x24), none, none, none, none, some (yi x40), some (yi x169), none, none]) rfl (by decide) (fun _ => rfl) (fun x169 => ?_)
                      refine y_iload hX 165 rfl rfl ?_
                      refine y_iconst hX 166 1 rfl (by decide) ?_
                      refine y_join (S := Int) 385 (fun s170 => [some (va_rf p1), some (.ref (qx_ad X 0)), some (va_rf s20.1), some (va_rf s20.2.1), none, some (yi s20.2.2.2), some (yi x22), some (va_rf x24), none, none, none, none, some (yi x40), some (yi x169), none, none]) (fun s170 => [yi s170]) ?_ ?_
                      ·
                        refine y_icne hX 167 376 rfl (by decide) ?_ ?_
                        ·
                          refine y_iconst hX 176 1 rfl (by decide) ?_
                          refine y_iload hX 177 rfl rfl ?_
                          refine y_bipush hX 178 12 rfl (by decide) ?_
                          refine y_iushr hX 179 rfl ?_
                          refine y_iconst hX 180 3 rfl (by decide) ?_
                          refine y_irem hX 181 rfl (fun x171 => ?_)
                          refine y_iadd hX 182 rfl ?_
                          exact y_exit (fun w h => yj_wk (ρ' := [some (va_rf p1), some (.ref (qx_ad X 0)), some (va_rf s20.1), some (va_rf s20.2.1), none, some (yi s20.2.2.2), some (yi x22), some (va_rf x24), none, none, none, none, some (yi x40), some (yi x169), none, none]) (qw_s (qw_s (qw_s (qw_s (qw_n (qw_s (qw_s (qw_s (qw_n (qw_n (qw_n (qw_n (qw_s (qw_s (qw_n (qw_n (qw_0))))))))))))))))) h)
                        ·
                          refine y_bipush hX 168 10 rfl (by decide) ?_
                          refine y_iload hX 169 rfl rfl ?_
                          refine y_bipush hX 170 12 rfl (by decide) ?_
                          refine y_iushr hX 171 rfl ?_
                          refine y_bipush hX 172 50 rfl (by decide) ?_
                          refine y_irem hX 173 rfl (fun x172 => ?_)
                          refine y_iadd hX 174 rfl ?_
                          exact y_exit (fun w h => yj_goto hX 175 rfl (by decide) (yj_wk (ρ' := [some (va_rf p1), some (.ref (qx_ad X 0)), some (va_rf s20.1), some (va_rf s20.2.1), none, some (yi s20.2.2.2), some (yi x22), some (va_rf x24), none, none, none, none, some (yi x40), some (yi x169), none, none]) (qw_s (qw_s (qw_s (qw_s (qw_n (qw_s (qw_s (qw_s (qw_n (qw_n (qw_n (qw_n (qw_s (qw_s (qw_n (qw_n (qw_0))))))))))))))))) h))
                      · intro s170
                        refine y_istore hX 183 (fun x173 => [some (va_rf p1), some (.ref (qx_ad X 0)), some (va_rf s20.1), some (va_rf s20.2.1), none, some (yi s20.2.2.2), some (yi x22), some (va_rf x24), none, none, none, none, some (yi x40), some (yi x169), some (yi x173), none]) rfl (by decide) (fun _ => rfl) (fun x173 => ?_)
                        refine y_aload_n hX 184 rfl rfl ?_
                        refine y_getNR hX 185 (t := 10) (j := 0) rfl yfl_Law_48 (by decide) (by decide +kernel) (fun x174 => ?_)
                        refine y_iload hX 186 rfl rfl ?_
                        refine y_iald hX 187 rfl (fun x175 => ?_)
                        refine y_iload hX 188 rfl rfl ?_
                        refine y_join (S := Int) 404 (fun s176 => [some (va_rf p1), some (.ref (qx_ad X 0)), some (va_rf s20.1), some (va_rf s20.2.1), none, some (yi s20.2.2.2), some (yi x22), some (va_rf x24), none, none, none, none, some (yi x40), some (yi x169), some (yi x173), none]) (fun s176 => [yi s176]) ?_ ?_
                        ·
                          refine y_iceq hX 189 403 rfl (by decide) ?_ ?_
                          ·
                            refine y_iconst hX 192 0 rfl (by decide) ?_
                            exact y_exit (fun w h => yj_wk (ρ' := [some (va_rf p1), some (.ref (qx_ad X 0)), some (va_rf s20.1), some (va_rf s20.2.1), none, some (yi s20.2.2.2), some (yi x22), some (va_rf x24), none, none, none, none, some (yi x40), some (yi x169), some (yi x173), none]) (qw_s (qw_s (qw_s (qw_s (qw_n (qw_s (qw_s (qw_s (qw_n (qw_n (qw_n (qw_n (qw_s (qw_s (qw_s (qw_n (qw_0))))))))))))))))) h)
                          ·
                            refine y_iconst hX 190 1 rfl (by decide) ?_
                            exact y_exit (fun w h => yj_goto hX 191 rfl (by decide) (yj_wk (ρ' := [some (va_rf p1), some (.ref (qx_ad X 0)), some (va_rf s20.1), some (va_rf s20.2.1), none, some (yi s20.2.2.2), some (yi x22), some (va_rf x24), none, none, none, none, some (yi x40), some (yi x169), some (yi x173), none]) (qw_s (qw_s (qw_s (qw_s (qw_n (qw_s (qw_s (qw_s (qw_n (qw_n (qw_n (qw_n (qw_s (qw_s (qw_s (qw_n (qw_0))))))))))))))))) h))
                        · intro s176
                          refine y_istore hX 193 (fun x177 => [some (va_rf p1), some (.ref (qx_ad X 0)), some (va_rf s20.1), some (va_rf s20.2.1), none, some (yi s20.2.2.2), some (yi x22), some (va_rf x24), none, none, none, some (yi x177), some (yi x40), some (yi x169), some (yi x173), none]) rfl (by decide) (fun _ => rfl) (fun x177 => ?_)
                          refine y_rload_n hX 194 rfl rfl ?_
                          refine y_iload hX 195 rfl rfl ?_
                          refine y_iload hX 196 rfl rfl ?_
                          refine y_objI (xs := ([x169, x173] : List Int)) (m0 := jf_Top_set 0 (Int32.ofInt x169) (Int32.ofInt x173)) hX 197 (a := 0) (ci := 8) (As := [yi x169, yi x173]) rfl ycv_Law_159 (jm_Top_set (qk_GI hX.1) 0 (Int32.ofInt x169) (Int32.ofInt x173) (by decide +kernel)) (fun h => is_Top_set (yi_toInt (h _ (by simp))) (yi_toInt (h _ (by simp)))) (by decide +kernel) ⟨rfl, rfl, rfl, by decide, by decide⟩ rfl (Nat.le_trans y_cn (by decide)) (fun x178 => ?_)
                          refine y_iload hX 198 rfl rfl ?_
                          refine y_join (S := Int) 431 (fun s179 => [some (va_rf p1), some (.ref (qx_ad X 0)), some (va_rf s20.1), some (va_rf s20.2.1), none, some (yi s20.2.2.2), some (yi x22), some (va_rf x24), none, none, none, some (yi x177), some (yi x40), some (yi x169), some (yi x173), none]) (fun s179 => [yi s179, yi x178]) ?_ ?_
                          ·
                            refine y_ifeq hX 199 429 rfl (by decide) ?_ ?_
                            ·
                              refine y_bipush hX 205 (-2) rfl (by decide) ?_
                              exact y_exit (fun w h => yj_wk (ρ' := [some (va_rf p1), some (.ref (qx_ad X 0)), some (va_rf s20.1), some (va_rf s20.2.1), none, some (yi s20.2.2.2), some (yi x22), some (va_rf x24), none, none, none, some (yi x177), some (yi x40), some (yi x169), some (yi x173), none]) (qw_s (qw_s (qw_s (qw_s (qw_n (qw_s (qw_s (qw_s (qw_n (qw_n (qw_n (qw_s (qw_s (qw_s (qw_s (qw_n (qw_0))))))))))))))))) h)
                            ·
                              refine y_aload_n hX 200 rfl rfl ?_
                              refine y_getNR hX 201 (t := 10) (j := 0) rfl yfl_Law_48 (by decide) (by decide +kernel) (fun x180 => ?_)
                              refine y_iload hX 202 rfl rfl ?_
                              refine y_iald hX 203 rfl (fun x181 => ?_)
                              exact y_exit (fun w h => yj_goto hX 204 rfl (by decide) (yj_wk (ρ' := [some (va_rf p1), some (.ref (qx_ad X 0)), some (va_rf s20.1), some (va_rf s20.2.1), none, some (yi s20.2.2.2), some (yi x22), some (va_rf x24), none, none, none, some (yi x177), some (yi x40), some (yi x169), some (yi x173), none]) (qw_s (qw_s (qw_s (qw_s (qw_n (qw_s (qw_s (qw_s (qw_n (qw_n (qw_n (qw_s (qw_s (qw_s (qw_s (qw_n (qw_0))))))))))))))))) h))
                          · intro s179
                            refine y_join (S := Int) 482 (fun s182 => [some (va_rf p1), some (.ref (qx_ad X 0)), some (va_rf s20.1), some (va_rf s20.2.1), none, some (yi s20.2.2.2), some (yi x22), some (va_rf x24), none, none, none, some (yi x177), some (yi x40), some (yi x169), some (yi x173), none]) (fun s182 => [yi s182]) ?_ ?_
                            ·
                              refine y_join2 (S := Unit) 481 (fun s183 => [some (va_rf p1), some (.ref (qx_ad X 0)), some (va_rf s20.1), some (va_rf s20.2.1), none, some (yi s20.2.2.2), some (yi x22), some (va_rf x24), none, none, none, some (yi x177), some (yi x40), some (yi x169), some (yi x173), none]) (fun s183 => []) ?_ ?_
                              ·
                                refine y_icne hX 206 481 rfl (by decide) ?_ ?_
                                ·
                                  exact y_exit (fun w h => yj_wk (ρ' := [some (va_rf p1), some (.ref (qx_ad X 0)), some (va_rf s20.1), some (va_rf s20.2.1), none, some (yi s20.2.2.2), some (yi x22), some (va_rf x24), none, none, none, some (yi x177), some (yi x40), some (yi x169), some (yi x173), none]) (qw_s (qw_s (qw_s (qw_s (qw_n (qw_s (qw_s (qw_s (qw_n (qw_n (qw_n (qw_s (qw_s (qw_s (qw_s (qw_n (qw_0))))))))))))))))) h)
                                ·
                                  refine y_rload_n hX 207 rfl rfl ?_
                                  refine y_bipush hX 208 8 rfl (by decide) ?_
                                  refine y_iconst hX 209 1 rfl (by decide) ?_
                                  refine y_objI (xs := ([(8 : Int), (1 : Int)] : List Int)) (m0 := jf_Top_set 0 (Int32.ofInt (8 : Int)) (Int32.ofInt (1 : Int))) hX 210 (a := 0) (ci := 8) (As := [yi (8 : Int), yi (1 : Int)]) rfl ycv_Law_159 (jm_Top_set (qk_GI hX.1) 0 (Int32.ofInt (8 : Int)) (Int32.ofInt (1 : Int)) (by decide +kernel)) (fun h => is_Top_set (yi_toInt (h _ (by simp))) (yi_toInt (h _ (by simp)))) (by decide +kernel) ⟨rfl, rfl, rfl, by decide, by decide⟩ rfl (Nat.le_trans y_cn (by decide)) (fun x184 => ?_)
                                  refine y_iconst hX 211 (-1) rfl (by decide) ?_
                                  refine y_icne hX 212 481 rfl (by decide) ?_ ?_
                                  ·
                                    exact y_exit (fun w h => yj_wk (ρ' := [some (va_rf p1), some (.ref (qx_ad X 0)), some (va_rf s20.1), some (va_rf s20.2.1), none, some (yi s20.2.2.2), some (yi x22), some (va_rf x24), none, none, none, some (yi x177), some (yi x40), some (yi x169), some (yi x173), none]) (qw_s (qw_s (qw_s (qw_s (qw_n (qw_s (qw_s (qw_s (qw_n (qw_n (qw_n (qw_s (qw_s (qw_s (qw_s (qw_n (qw_0))))))))))))))))) h)
                                  ·
                                    refine y_rload_n hX 213 rfl rfl ?_
                                    refine y_iconst hX 214 0 rfl (by decide) ?_
                                    refine y_bipush hX 215 6 rfl (by decide) ?_
                                    refine y_objI (xs := ([(0 : Int), (6 : Int)] : List Int)) (m0 := jf_Top_set 0 (Int32.ofInt (0 : Int)) (Int32.ofInt (6 : Int))) hX 216 (a := 0) (ci := 8) (As := [yi (0 : Int), yi (6 : Int)]) rfl ycv_Law_159 (jm_Top_set (qk_GI hX.1) 0 (Int32.ofInt (0 : Int)) (Int32.ofInt (6 : Int)) (by decide +kernel)) (fun h => is_Top_set (yi_toInt (h _ (by simp))) (yi_toInt (h _ (by simp)))) (by decide +kernel) ⟨rfl, rfl, rfl, by decide, by decide⟩ rfl (Nat.le_trans y_cn (by decide)) (fun x185 => ?_)
                                    refine y_iconst hX 217 (-1) rfl (by decide) ?_
                                    refine y_icne hX 218 481 rfl (by decide) ?_ ?_
                                    ·
                                      exact y_exit (fun w h => yj_wk (ρ' := [some (va_rf p1), some (.ref (qx_ad X 0)), some (va_rf s20.1), some (va_rf s20.2.1), none, some (yi s20.2.2.2), some (yi x22), some (va_rf x24), none, none, none, some (yi x177), some (yi x40), some (yi x169), some (yi x173), none]) (qw_s (qw_s (qw_s (qw_s (qw_n (qw_s (qw_s (qw_s (qw_n (qw_n (qw_n (qw_s (qw_s (qw_s (qw_s (qw_n (qw_0))))))))))))))))) h)
                                    ·
                                      refine y_rload_n hX 219 rfl rfl ?_
                                      refine y_iconst hX 220 1 rfl (by decide) ?_
                                      refine y_bipush hX 221 9 rfl (by decide) ?_
                                      refine y_objI (xs := ([(1 : Int), (9 : Int)] : List Int)) (m0 := jf_Top_set 0 (Int32.ofInt (1 : Int)) (Int32.ofInt (9 : Int))) hX 222 (a := 0) (ci := 8) (As := [yi (1 : Int), yi (9 : Int)]) rfl ycv_Law_159 (jm_Top_set (qk_GI hX.1) 0 (Int32.ofInt (1 : Int)) (Int32.ofInt (9 : Int)) (by decide +kernel)) (fun h => is_Top_set (yi_toInt (h _ (by simp))) (yi_toInt (h _ (by simp)))) (by decide +kernel) ⟨rfl, rfl, rfl, by decide, by decide⟩ rfl (Nat.le_trans y_cn (by decide)) (fun x186 => ?_)
                                      refine y_iconst hX 223 (-1) rfl (by decide) ?_
                                      refine y_icne hX 224 481 rfl (by decide) ?_ ?_
                                      ·
                                        exact y_exit (fun w h => yj_wk (ρ' := [some (va_rf p1), some (.ref (qx_ad X 0)), some (va_rf s20.1), some (va_rf s20.2.1), none, some (yi s20.2.2.2), some (yi x22), some (va_rf x24), none, none, none, some (yi x177), some (yi x40), some (yi x169), some (yi x173), none]) (qw_s (qw_s (qw_s (qw_s (qw_n (qw_s (qw_s (qw_s (qw_n (qw_n (qw_n (qw_s (qw_s (qw_s (qw_s (qw_n (qw_0))))))))))))))))) h)
                                      ·
                                        refine y_rload_n hX 225 rfl rfl ?_
                                        refine y_iconst hX 226 5 rfl (by decide) ?_
                                        refine y_iconst hX 227 4 rfl (by decide) ?_
                                        refine y_objI (xs := ([(5 : Int), (4 : Int)] : List Int)) (m0 := jf_Top_set 0 (Int32.ofInt (5 : Int)) (Int32.ofInt (4 : Int))) hX 228 (a := 0) (ci := 8) (As := [yi (5 : Int), yi (4 : Int)]) rfl ycv_Law_159 (jm_Top_set (qk_GI hX.1) 0 (Int32.ofInt (5 : Int)) (Int32.ofInt (4 : Int)) (by decide +kernel)) (fun h => is_Top_set (yi_toInt (h _ (by simp))) (yi_toInt (h _ (by simp)))) (by decide +kernel) ⟨rfl, rfl, rfl, by decide, by decide⟩ rfl (Nat.le_trans y_cn (by decide)) (fun x187 => ?_)
                                        refine y_iconst hX 229 (-1) rfl (by decide) ?_
                                        refine y_icne hX 230 481 rfl (by decide) ?_ ?_
                                        ·
                                          exact y_exit (fun w h => yj_wk (ρ' := [some (va_rf p1), some (.ref (qx_ad X 0)), some (va_rf s20.1), some (va_rf s20.2.1), none, some (yi s20.2.2.2), some (yi x22), some (va_rf x24), none, none, none, some (yi x177), some (yi x40), some (yi x169), some (yi x173), none]) (qw_s (qw_s (qw_s (qw_s (qw_n (qw_s (qw_s (qw_s (qw_n (qw_n (qw_n (qw_s (qw_s (qw_s (qw_s (qw_n (qw_0))))))))))))))))) h)
                                        ·
                                          refine y_iconst hX 231 1 rfl (by decide) ?_
                                          exact y_exit (fun w h => yj_goto hX 232 rfl (by decide) (yj_wk (ρ' := [some (va_rf p1), some (.ref (qx_ad X 0)), some (va_rf s20.1), some (va_rf s20.2.1), none, some (yi s20.2.2.2), some (yi x22), some (va_rf x24), none, none, none, some (yi x177), some (yi x40), some (yi x169), some (yi x173), none]) (qw_s (qw_s (qw_s (qw_s (qw_n (qw_s (qw_s (qw_s (qw_n (qw_n (qw_n (qw_s (qw_s (qw_s (qw_s (qw_n (qw_0))))))))))))))))) h))
                              · intro s183
                                refine y_iconst hX 233 0 rfl (by decide) ?_
                                exact y_exit (fun w h => yj_wk (ρ' := [some (va_rf p1), some (.ref (qx_ad X 0)), some (va_rf s20.1), some (va_rf s20.2.1), none, some (yi s20.2.2.2), some (yi x22), some (va_rf x24), none, none, none, some (yi x177), some (yi x40), some (yi x169), some (yi x173), none]) (qw_s (qw_s (qw_s (qw_s (qw_n (qw_s (qw_s (qw_s (qw_n (qw_n (qw_n (qw_s (qw_s (qw_s (qw_s (qw_n (qw_0))))))))))))))))) h)
                            · intro s182
                              refine y_istore hX 234 (fun x188 => [some (va_rf p1), some (.ref (qx_ad X 0)), some (va_rf s20.1), some (va_rf s20.2.1), some (yi x188), some (yi s20.2.2.2), some (yi x22), some (va_rf x24), none, none, none, some (yi x177), some (yi x40), some (yi x169), some (yi x173), none]) rfl (by decide) (fun _ => rfl) (fun x188 => ?_)
                              refine y_aload_n hX 235 rfl rfl ?_
                              refine y_getNR hX 236 (t := 10) (j := 0) rfl yfl_Law_48 (by decide) (by decide +kernel) (fun x189 => ?_)
                              refine y_iload hX 237 rfl rfl ?_
                              refine y_iload hX 238 rfl rfl ?_
                              refine y_iast hX 239 rfl ?_
                              exact y_exit (fun w h => yj_goto hX 240 rfl (by decide) (yj_wk (ρ' := [some (va_rf p1), some (.ref (qx_ad X 0)), some (va_rf s20.1), some (va_rf s20.2.1), some (yi x188), some (yi s20.2.2.2), some (yi x22), some (va_rf x24), none, none, none, some (yi x177), some (yi x40), none, none, none]) (qw_s (qw_s (qw_s (qw_s (qw_s (qw_s (qw_s (qw_s (qw_n (qw_n (qw_n (qw_s (qw_s (qw_n (qw_n (qw_n (qw_0))))))))))))))))) h))
                  · intro s43
                    refine y_iload hX 581 rfl rfl ?_
                    refine y_join (S := Int) 1170 (fun s190 => [some (va_rf p1), some (.ref (qx_ad X 0)), some (va_rf s43.1), some (va_rf s43.2.1), none, some (yi s20.2.2.2), some (yi x22), some (va_rf x24), none, none, none, some (yi s43.2.2.2.1), some (yi s43.2.2.2.2), none, none, none]) (fun s190 => [yi s190]) ?_ ?_
                    ·
                      refine y_join2 (S := Unit) 1169 (fun s191 => [some (va_rf p1), some (.ref (qx_ad X 0)), some (va_rf s43.1), some (va_rf s43.2.1), none, some (yi s20.2.2.2), some (yi x22), some (va_rf x24), none, none, none, some (yi s43.2.2.2.1), some (yi s43.2.2.2.2), none, none, none]) (fun s191 => []) ?_ ?_
                      ·
                        refine y_ifeq hX 582 1169 rfl (by decide) ?_ ?_
                        ·
                          exact y_exit (fun w h => yj_wk (ρ' := [some (va_rf p1), some (.ref (qx_ad X 0)), some (va_rf s43.1), some (va_rf s43.2.1), none, some (yi s20.2.2.2), some (yi x22), some (va_rf x24), none, none, none, some (yi s43.2.2.2.1), some (yi s43.2.2.2.2), none, none, none]) (qw_s (qw_s (qw_s (qw_s (qw_n (qw_s (qw_s (qw_s (qw_n (qw_n (qw_n (qw_s (qw_s (qw_n (qw_n (qw_n (qw_0))))))))))))))))) h)
                        ·
                          refine y_rload_n hX 583 rfl rfl ?_
                          refine y_aload_n hX 584 rfl rfl ?_
                          refine y_calI hX y_gK (y_hrS hX 585 (As := [.ref (qx_ad X 0), va_rf s43.1]) rfl ycw_Law_101 (km_Law_same (yk_G hX) s43.1) ⟨rfl, by decide, by decide⟩ rfl (Nat.le_trans y_cn (by decide))) (fun x192 => ?_)
                          refine y_ifeq hX 586 1169 rfl (by decide) ?_ ?_
                          ·
                            exact y_exit (fun w h => yj_wk (ρ' := [some (va_rf p1), some (.ref (qx_ad X 0)), some (va_rf s43.1), some (va_rf s43.2.1), none, some (yi s20.2.2.2), some (yi x22), some (va_rf x24), none, none, none, some (yi s43.2.2.2.1), some (yi s43.2.2.2.2), none, none, none]) (qw_s (qw_s (qw_s (qw_s (qw_n (qw_s (qw_s (qw_s (qw_n (qw_n (qw_n (qw_s (qw_s (qw_n (qw_n (qw_n (qw_0))))))))))))))))) h)
                          ·
                            refine y_iconst hX 587 1 rfl (by decide) ?_
                            exact y_exit (fun w h => yj_goto hX 588 rfl (by decide) (yj_wk (ρ' := [some (va_rf p1), some (.ref (qx_ad X 0)), some (va_rf s43.1), some (va_rf s43.2.1), none, some (yi s20.2.2.2), some (yi x22), some (va_rf x24), none, none, none, some (yi s43.2.2.2.1), some (yi s43.2.2.2.2), none, none, none]) (qw_s (qw_s (qw_s (qw_s (qw_n (qw_s (qw_s (qw_s (qw_n (qw_n (qw_n (qw_s (qw_s (qw_n (qw_n (qw_n (qw_0))))))))))))))))) h))
                      · intro s191
                        refine y_iconst hX 589 0 rfl (by decide) ?_
                        exact y_exit (fun w h => yj_wk (ρ' := [some (va_rf p1), some (.ref (qx_ad X 0)), some (va_rf s43.1), some (va_rf s43.2.1), none, some (yi s20.2.2.2), some (yi x22), some (va_rf x24), none, none, none, some (yi s43.2.2.2.1), some (yi s43.2.2.2.2), none, none, none]) (qw_s (qw_s (qw_s (qw_s (qw_n (qw_s (qw_s (qw_s (qw_n (qw_n (qw_n (qw_s (qw_s (qw_n (qw_n (qw_n (qw_0))))))))))))))))) h)
                    · intro s190
                      refine y_istore hX 590 (fun x193 => [some (va_rf p1), some (.ref (qx_ad X 0)), some (va_rf s43.1), some (va_rf s43.2.1), some (yi x193), some (yi s20.2.2.2), some (yi x22), some (va_rf x24), none, none, none, some (yi s43.2.2.2.1), some (yi s43.2.2.2.2), none, none, none]) rfl (by decide) (fun _ => rfl) (fun x193 => ?_)
                      refine y_iload hX 591 rfl rfl ?_
                      refine y_join (S := Option Nat × Int) 1245 (fun s194 => [some (va_rf p1), some (.ref (qx_ad X 0)), some (va_rf s194.1), some (va_rf s43.2.1), some (yi s194.2), some (yi s20.2.2.2), none, none, none, none, none, none, none, none, none, none]) (fun s194 => []) ?_ ?_
                      ·
                        refine y_ifeq hX 592 1245 rfl (by decide) ?_ ?_
                        ·
                          exact y_exit (fun w h => yj_wk (ρ' := [some (va_rf p1), some (.ref (qx_ad X 0)), some (va_rf s43.1), some (va_rf s43.2.1), some (yi x193), some (yi s20.2.2.2), none, none, none, none, none, none, none, none, none, none]) (qw_s (qw_s (qw_s (qw_s (qw_s (qw_s (qw_n (qw_n (qw_n (qw_n (qw_n (qw_n (qw_n (qw_n (qw_n (qw_n (qw_0))))))))))))))))) h)
                        ·
                          refine y_iload hX 593 rfl rfl ?_
                          refine y_ifne hX 594 1245 rfl (by decide) ?_ ?_
                          ·
                            exact y_exit (fun w h => yj_wk (ρ' := [some (va_rf p1), some (.ref (qx_ad X 0)), some (va_rf s43.1), some (va_rf s43.2.1), some (yi x193), some (yi s20.2.2.2), none, none, none, none, none, none, none, none, none, none]) (qw_s (qw_s (qw_s (qw_s (qw_s (qw_s (qw_n (qw_n (qw_n (qw_n (qw_n (qw_n (qw_n (qw_n (qw_n (qw_n (qw_0))))))))))))))))) h)
                          ·
                            refine y_iload hX 595 rfl rfl ?_
                            refine y_ifeq hX 596 1245 rfl (by decide) ?_ ?_
                            ·
                              exact y_exit (fun w h => yj_wk (ρ' := [some (va_rf p1), some (.ref (qx_ad X 0)), some (va_rf s43.1), some (va_rf s43.2.1), some (yi x193), some (yi s20.2.2.2), none, none, none, none, none, none, none, none, none, none]) (qw_s (qw_s (qw_s (qw_s (qw_s (qw_s (qw_n (qw_n (qw_n (qw_n (qw_n (qw_n (qw_n (qw_n (qw_n (qw_n (qw_0))))))))))))))))) h)
                            ·
                              refine y_iload hX 597 rfl rfl ?_
                              refine y_bipush hX 598 26 rfl (by decide) ?_
                              refine y_iushr hX 599 rfl ?_
                              refine y_iconst hX 600 3 rfl (by decide) ?_
                              refine y_iand hX 601 rfl ?_
                              refine y_ifne hX 602 1245 rfl (by decide) ?_ ?_
                              ·
                                exact y_exit (fun w h => yj_wk (ρ' := [some (va_rf p1), some (.ref (qx_ad X 0)), some (va_rf s43.1), some (va_rf s43.2.1), some (yi x193), some (yi s20.2.2.2), none, none, none, none, none, none, none, none, none, none]) (qw_s (qw_s (qw_s (qw_s (qw_s (qw_s (qw_n (qw_n (qw_n (qw_n (qw_n (qw_n (qw_n (qw_n (qw_n (qw_n (qw_0))))))))))))))))) h)
                              ·
                                refine y_rload_n hX 603 rfl rfl ?_
                                refine y_iconst hX 604 4 rfl (by decide) ?_
                                refine y_objI (xs := ([(4 : Int)] : List Int)) (m0 := jf_Top_count 0 (Int32.ofInt (4 : Int))) hX 605 (a := 0) (ci := 8) (As := [yi (4 : Int)]) rfl ycv_Law_33 (jm_Top_count (qk_GI hX.1) 0 (Int32.ofInt (4 : Int)) (by decide +kernel)) (fun h => is_Top_count (yi_toInt (h _ (by simp)))) (by decide +kernel) ⟨rfl, rfl, rfl, by decide, by decide⟩ rfl (Nat.le_trans y_cn (by decide)) (fun x195 => ?_)
                                refine y_istore hX 606 (fun x196 => [some (va_rf p1), some (.ref (qx_ad X 0)), some (va_rf s43.1), some (va_rf s43.2.1), some (yi x193), some (yi s20.2.2.2), some (yi x22), some (va_rf x24), none, none, none, some (yi s43.2.2.2.1), some (yi s43.2.2.2.2), some (yi x196), none, none]) rfl (by decide) (fun _ => rfl) (fun x196 => ?_)
                                refine y_rload_n hX 607 rfl rfl ?_
                                refine y_objI (xs := ([] : List Int)) (m0 := jf_Top_undo 0) hX 608 (a := 0) (ci := 8) (As := []) rfl ycv_Law_107 (jm_Top_undo (qk_GI hX.1) 0 (by decide +kernel)) (fun h => is_Top_undo) (by decide +kernel) ⟨rfl, rfl, rfl, by decide, by decide⟩ rfl (Nat.le_trans y_cn (by decide)) (fun x197 => ?_)
                                refine y_iload hX 609 rfl rfl ?_
                                refine y_iconst hX 610 1 rfl (by decide) ?_
                                refine y_isub hX 611 rfl ?_
                                refine y_join (S := Int) 1220 (fun s198 => [some (va_rf p1), some (.ref (qx_ad X 0)), none, some (va_rf s43.2.1), none, some (yi s20.2.2.2), none, some (va_rf x24), none, none, none, none, none, none, none, none]) (fun s198 => [yi s198]) ?_ ?_
                                ·
                                  refine y_icne hX 612 1219 rfl (by decide) ?_ ?_
                                  ·
                                    refine y_iconst hX 615 0 rfl (by decide) ?_
                                    exact y_exit (fun w h => yj_wk (ρ' := [some (va_rf p1), some (.ref (qx_ad X 0)), none, some (va_rf s43.2.1), none, some (yi s20.2.2.2), none, some (va_rf x24), none, none, none, none, none, none, none, none]) (qw_s (qw_s (qw_n (qw_s (qw_n (qw_s (qw_n (qw_s (qw_n (qw_n (qw_n (qw_n (qw_n (qw_n (qw_n (qw_n (qw_0))))))))))))))))) h)
                                  ·
                                    refine y_iconst hX 613 1 rfl (by decide) ?_
                                    exact y_exit (fun w h => yj_goto hX 614 rfl (by decide) (yj_wk (ρ' := [some (va_rf p1), some (.ref (qx_ad X 0)), none, some (va_rf s43.2.1), none, some (yi s20.2.2.2), none, some (va_rf x24), none, none, none, none, none, none, none, none]) (qw_s (qw_s (qw_n (qw_s (qw_n (qw_s (qw_n (qw_s (qw_n (qw_n (qw_n (qw_n (qw_n (qw_n (qw_n (qw_n (qw_0))))))))))))))))) h))
                                · intro s198
                                  refine y_istore hX 616 (fun x199 => [some (va_rf p1), some (.ref (qx_ad X 0)), none, some (va_rf s43.2.1), some (yi x199), some (yi s20.2.2.2), none, some (va_rf x24), none, none, none, none, none, none, none, none]) rfl (by decide) (fun _ => rfl) (fun x199 => ?_)
                                  refine y_aload hX 617 rfl rfl ?_
                                  refine y_astore_n hX 618 (fun x200 => [some (va_rf p1), some (.ref (qx_ad X 0)), some (va_rf x200), some (va_rf s43.2.1), some (yi x199), some (yi s20.2.2.2), none, some (va_rf x24), none, none, none, none, none, none, none, none]) rfl (by decide) (fun _ => rfl) (fun x200 => ?_)
                                  refine y_iload hX 619 rfl rfl ?_
                                  refine y_join (S := Int) 1243 (fun s201 => [some (va_rf p1), some (.ref (qx_ad X 0)), some (va_rf x200), some (va_rf s43.2.1), none, some (yi s20.2.2.2), none, none, none, none, none, none, none, none, none, none]) (fun s201 => [yi s201]) ?_ ?_
                                  ·
                                    refine y_join2 (S := Unit) 1242 (fun s202 => [some (va_rf p1), some (.ref (qx_ad X 0)), some (va_rf x200), some (va_rf s43.2.1), none, some (yi s20.2.2.2), none, none, none, none, none, none, none, none, none, none]) (fun s202 => []) ?_ ?_
                                    ·
                                      refine y_ifeq hX 620 1242 rfl (by decide) ?_ ?_
                                      ·
                                        exact y_exit (fun w h => yj_wk (ρ' := [some (va_rf p1), some (.ref (qx_ad X 0)), some (va_rf x200), some (va_rf s43.2.1), none, some (yi s20.2.2.2), none, none, none, none, none, none, none, none, none, none]) (qw_s (qw_s (qw_s (qw_s (qw_n (qw_s (qw_n (qw_n (qw_n (qw_n (qw_n (qw_n (qw_n (qw_n (qw_n (qw_n (qw_0))))))))))))))))) h)
                                      ·
                                        refine y_rload_n hX 621 rfl rfl ?_
                                        refine y_aload_n hX 622 rfl rfl ?_
                                        refine y_calI hX y_gK (y_hrS hX 623 (As := [.ref (qx_ad X 0), va_rf x200]) rfl ycw_Law_101 (km_Law_same (yk_G hX) x200) ⟨rfl, by decide, by decide⟩ rfl (Nat.le_trans y_cn (by decide))) (fun x203 => ?_)
                                        refine y_ifeq hX 624 1242 rfl (by decide) ?_ ?_
                                        ·
                                          exact y_exit (fun w h => yj_wk (ρ' := [some (va_rf p1), some (.ref (qx_ad X 0)), some (va_rf x200), some (va_rf s43.2.1), none, some (yi s20.2.2.2), none, none, none, none, none, none, none, none, none, none]) (qw_s (qw_s (qw_s (qw_s (qw_n (qw_s (qw_n (qw_n (qw_n (qw_n (qw_n (qw_n (qw_n (qw_n (qw_n (qw_n (qw_0))))))))))))))))) h)
                                        ·
                                          refine y_iconst hX 625 1 rfl (by decide) ?_
                                          exact y_exit (fun w h => yj_goto hX 626 rfl (by decide) (yj_wk (ρ' := [some (va_rf p1), some (.ref (qx_ad X 0)), some (va_rf x200), some (va_rf s43.2.1), none, some (yi s20.2.2.2), none, none, none, none, none, none, none, none, none, none]) (qw_s (qw_s (qw_s (qw_s (qw_n (qw_s (qw_n (qw_n (qw_n (qw_n (qw_n (qw_n (qw_n (qw_n (qw_n (qw_n (qw_0))))))))))))))))) h))
                                    · intro s202
                                      refine y_iconst hX 627 0 rfl (by decide) ?_
                                      exact y_exit (fun w h => yj_wk (ρ' := [some (va_rf p1), some (.ref (qx_ad X 0)), some (va_rf x200), some (va_rf s43.2.1), none, some (yi s20.2.2.2), none, none, none, none, none, none, none, none, none, none]) (qw_s (qw_s (qw_s (qw_s (qw_n (qw_s (qw_n (qw_n (qw_n (qw_n (qw_n (qw_n (qw_n (qw_n (qw_n (qw_n (qw_0))))))))))))))))) h)
                                  · intro s201
                                    refine y_istore hX 628 (fun x204 => [some (va_rf p1), some (.ref (qx_ad X 0)), some (va_rf x200), some (va_rf s43.2.1), some (yi x204), some (yi s20.2.2.2), none, none, none, none, none, none, none, none, none, none]) rfl (by decide) (fun _ => rfl) (fun x204 => ?_)
                                    exact y_exit (fun w h => yj_wk (ρ' := [some (va_rf p1), some (.ref (qx_ad X 0)), some (va_rf x200), some (va_rf s43.2.1), some (yi x204), some (yi s20.2.2.2), none, none, none, none, none, none, none, none, none, none]) (qw_s (qw_s (qw_s (qw_s (qw_s (qw_s (qw_n (qw_n (qw_n (qw_n (qw_n (qw_n (qw_n (qw_n (qw_n (qw_n (qw_0))))))))))))))))) h)
                      · intro s194
                        refine y_iinc hX 629 (fun x205 => [some (va_rf p1), some (.ref (qx_ad X 0)), some (va_rf s194.1), some (va_rf s43.2.1), some (yi s194.2), some (yi x205), none, none, none, none, none, none, none, none, none, none]) rfl (by decide) rfl (fun _ => rfl) (fun x205 => ?_)
                        exact y_exit (fun w h => yj_goto hX 630 rfl (by decide) (yj_wk (ρ' := [some (va_rf p1), some (.ref (qx_ad X 0)), some (va_rf s194.1), some (va_rf s43.2.1), some (yi s194.2), some (yi x205), none, none, none, none, none, none, none, none, none, none]) (qw_s (qw_s (qw_s (qw_s (qw_s (qw_s (qw_n (qw_n (qw_n (qw_n (qw_n (qw_n (qw_n (qw_n (qw_n (qw_n (qw_0))))))))))))))))) h))
    · intro s19
      refine y_iload hX 631 rfl rfl ?_
      exact y_zret hX 632 (by first | exact Or.inl rfl | exact Or.inr rfl) rfl hR (fun _ h => h)
