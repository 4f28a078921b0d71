def R_law : String := "CubeCheckerLaw"
def il_law : List mm_I := [(0, .new 7, 3), (3, .dup, 4), (4, .invokespecial 9, 7), (7, .astore_n 1, 8), (8, .new 10, 11), (11, .dup, 12), (12, .invokespecial 12, 15), (15, .astore_n 2, 16), (16, .iconst 0, 17), (17, .istore_n 3, 18), (18, .iload_n 3, 19), (19, .aload_n 0, 20), (20, .arraylength, 21), (21, .iconst 5, 22), (22, .isub, 23), (23, .if_icmp .gt 651, 26), (26, .aload_n 0, 27), (27, .iload_n 3, 28), (28, .iaload, 29), (29, .bipush 31, 31), (31, .iand, 32), (32, .tableswitch 636 0 19 #[96, 119, 132, 145, 158, 191, 214, 267, 320, 353, 376, 419, 442, 485, 518, 541, 564, 577, 600, 613], 128), (128, .aload_n 1, 129), (129, .aload_n 0, 130), (130, .iload_n 3, 131), (131, .iconst 1, 132), (132, .iadd, 133), (133, .iaload, 134), (134, .invokevirtual 13, 137), (137, .aload_n 2, 138), (138, .aload_n 0, 139), (139, .iload_n 3, 140), (140, .iconst 1, 141), (141, .iadd, 142), (142, .iaload, 143), (143, .invokevirtual 17, 146), (146, .if_icmp .eq 522, 149), (149, .iconst 0, 150), (150, .ireturn, 151), (151, .aload_n 1, 152), (152, .invokevirtual 18, 155), (155, .aload_n 2, 156), (156, .invokevirtual 22, 159), (159, .if_icmp .eq 509, 162), (162, .iconst 0, 163), (163, .ireturn, 164), (164, .aload_n 1, 165), (165, .invokevirtual 23, 168), (168, .aload_n 2, 169), (169, .invokevirtual 26, 172), (172, .if_icmp .eq 496, 175), (175, .iconst 0, 176), (176, .ireturn, 177), (177, .aload_n 1, 178), (178, .invokevirtual 27, 181), (181, .aload_n 2, 182), (182, .invokevirtual 30, 185), (185, .if_icmp .eq 483, 188), (188, .iconst 0, 189), (189, .ireturn, 190), (190, .aload_n 1, 191), (191, .aload_n 0, 192), (192, .iload_n 3, 193), (193, .iconst 1, 194), (194, .iadd, 195), (195, .iaload, 196), (196, .aload_n 0, 197), (197, .iload_n 3, 198), (198, .iconst 2, 199), (199, .iadd, 200), (200, .iaload, 201), (201, .invokevirtual 31, 204), (204, .aload_n 2, 205), (205, .aload_n 0, 206), (206, .iload_n 3, 207), (207, .iconst 1, 208), (208, .iadd, 209), (209, .iaload, 210), (210, .aload_n 0, 211), (211, .iload_n 3, 212), (212, .iconst 2, 213), (213, .iadd, 214), (214, .iaload, 215), (215, .invokevirtual 35, 218), (218, .if_icmp .eq 450, 221), (221, .iconst 0, 222), (222, .ireturn, 223), (223, .aload_n 1, 224), (224, .aload_n 0, 225), (225, .iload_n 3, 226), (226, .iconst 1, 227), (227, .iadd, 228), (228, .iaload, 229), (229, .invokevirtual 36, 232), (232, .aload_n 2, 233), (233, .aload_n 0, 234), (234, .iload_n 3, 235), (235, .iconst 1, 236), (236, .iadd, 237), (237, .iaload, 238), (238, .invokevirtual 39, 241), (241, .if_icmp .eq 427, 244), (244, .iconst 0, 245), (245, .ireturn, 246), (246, .aload_n 1, 247), (247, .aload_n 0, 248), (248, .iload_n 3, 249), (249, .iconst 1, 250), (250, .iadd, 251), (251, .iaload, 252), (252, .aload_n 0, 253), (253, .iload_n 3, 254), (254, .iconst 2, 255), (255, .iadd, 256), (256, .iaload, 257), (257, .aload_n 0, 258), (258, .iload_n 3, 259), (259, .iconst 3, 260), (260, .iadd, 261), (261, .iaload, 262), (262, .aload_n 0, 263), (263, .iload_n 3, 264), (264, .iconst 4, 265), (265, .iadd, 266), (266, .iaload, 267), (267, .invokevirtual 40, 270), (270, .aload_n 2, 271), (271, .aload_n 0, 272), (272, .iload_n 3, 273), (273, .iconst 1, 274), (274, .iadd, 275), (275, .iaload, 276), (276, .aload_n 0, 277), (277, .iload_n 3, 278), (278, .iconst 2, 279), (279, .iadd, 280), (280, .iaload, 281), (281, .aload_n 0, 282), (282, .iload_n 3, 283), (283, .iconst 3, 284), (284, .iadd, 285), (285, .iaload, 286), (286, .aload_n 0, 287), (287, .iload_n 3, 288), (288, .iconst 4, 289), (289, .iadd, 290), (290, .iaload, 291), (291, .invokevirtual 44, 294), (294, .if_icmp .eq 374, 297), (297, .iconst 0, 298), (298, .ireturn, 299), (299, .aload_n 1, 300), (300, .aload_n 0, 301), (301, .iload_n 3, 302), (302, .iconst 1, 303), (303, .iadd, 304), (304, .iaload, 305), (305, .aload_n 0, 306), (306, .iload_n 3, 307), (307, .iconst 2, 308), (308, .iadd, 309), (309, .iaload, 310), (310, .aload_n 0, 311), (311, .iload_n 3, 312), (312, .iconst 3, 313), (313, .iadd, 314), (314, .iaload, 315), (315, .aload_n 0, 316), (316, .iload_n 3, 317), (317, .iconst 4, 318), (318, .iadd, 319), (319, .iaload, 320), (320, .invokevirtual 45, 323), (323, .aload_n 2, 324), (324, .aload_n 0, 325), (325, .iload_n 3, 326), (326, .iconst 1, 327), (327, .iadd, 328), (328, .iaload, 329), (329, .aload_n 0, 330), (330, .iload_n 3, 331), (331, .iconst 2, 332), (332, .iadd, 333), (333, .iaload, 334), (334, .aload_n 0, 335), (335, .iload_n 3, 336), (336, .iconst 3, 337), (337, .iadd, 338), (338, .iaload, 339), (339, .aload_n 0, 340), (340, .iload_n 3, 341), (341, .iconst 4, 342), (342, .iadd, 343), (343, .iaload, 344), (344, .invokevirtual 48, 347), (347, .if_icmp .eq 321, 350), (350, .iconst 0, 351), (351, .ireturn, 352), (352, .aload_n 1, 353), (353, .aload_n 0, 354), (354, .iload_n 3, 355), (355, .iconst 1, 356), (356, .iadd, 357), (357, .iaload, 358), (358, .aload_n 0, 359), (359, .iload_n 3, 360), (360, .iconst 2, 361), (361, .iadd, 362), (362, .iaload, 363), (363, .invokevirtual 49, 366), (366, .aload_n 2, 367), (367, .aload_n 0, 368), (368, .iload_n 3, 369), (369, .iconst 1, 370), (370, .iadd, 371), (371, .iaload, 372), (372, .aload_n 0, 373), (373, .iload_n 3, 374), (374, .iconst 2, 375), (375, .iadd, 376), (376, .iaload, 377), (377, .invokevirtual 52, 380), (380, .if_icmp .eq 288, 383), (383, .iconst 0, 384), (384, .ireturn, 385), (385, .aload_n 1, 386), (386, .aload_n 0, 387), (387, .iload_n 3, 388), (388, .iconst 1, 389), (389, .iadd, 390), (390, .iaload, 391), (391, .invokevirtual 53, 394), (394, .aload_n 2, 395), (395, .aload_n 0, 396), (396, .iload_n 3, 397), (397, .iconst 1, 398), (398, .iadd, 399), (399, .iaload, 400), (400, .invokevirtual 56, 403), (403, .if_icmp .eq 265, 406), (406, .iconst 0, 407), (407, .ireturn, 408), (408, .aload_n 1, 409), (409, .aload_n 0, 410), (410, .iload_n 3, 411), (411, .iconst 1, 412), (412, .iadd, 413), (413, .iaload, 414), (414, .aload_n 0, 415), (415, .iload_n 3, 416), (416, .iconst 2, 417), (417, .iadd, 418), (418, .iaload, 419), (419, .aload_n 0, 420), (420, .iload_n 3, 421), (421, .iconst 3, 422), (422, .iadd, 423), (423, .iaload, 424), (424, .invokevirtual 57, 427), (427, .aload_n 2, 428), (428, .aload_n 0, 429), (429, .iload_n 3, 430), (430, .iconst 1, 431), (431, .iadd, 432), (432, .iaload, 433), (433, .aload_n 0, 434), (434, .iload_n 3, 435), (435, .iconst 2, 436), (436, .iadd, 437), (437, .iaload, 438), (438, .aload_n 0, 439), (439, .iload_n 3, 440), (440, .iconst 3, 441), (441, .iadd, 442), (442, .iaload, 443), (443, .invokevirtual 61, 446), (446, .if_icmp .eq 222, 449), (449, .iconst 0, 450), (450, .ireturn, 451), (451, .aload_n 1, 452), (452, .aload_n 0, 453), (453, .iload_n 3, 454), (454, .iconst 1, 455), (455, .iadd, 456), (456, .iaload, 457), (457, .invokevirtual 62, 460), (460, .aload_n 2, 461), (461, .aload_n 0, 462), (462, .iload_n 3, 463), (463, .iconst 1, 464), (464, .iadd, 465), (465, .iaload, 466), (466, .invokevirtual 65, 469), (469, .if_icmp .eq 199, 472), (472, .iconst 0, 473), (473, .ireturn, 474), (474, .aload_n 1, 475), (475, .aload_n 0, 476), (476, .iload_n 3, 477), (477, .iconst 1, 478), (478, .iadd, 479), (479, .iaload, 480), (480, .aload_n 0, 481), (481, .iload_n 3, 482), (482, .iconst 2, 483), (483, .iadd, 484), (484, .iaload, 485), (485, .aload_n 0, 486), (486, .iload_n 3, 487), (487, .iconst 3, 488), (488, .iadd, 489), (489, .iaload, 490), (490, .invokevirtual 66, 493), (493, .aload_n 2, 494), (494, .aload_n 0, 495), (495, .iload_n 3, 496), (496, .iconst 1, 497), (497, .iadd, 498), (498, .iaload, 499), (499, .aload_n 0, 500), (500, .iload_n 3, 501), (501, .iconst 2, 502), (502, .iadd, 503), (503, .iaload, 504), (504, .aload_n 0, 505), (505, .iload_n 3, 506), (506, .iconst 3, 507), (507, .iadd, 508), (508, .iaload, 509), (509, .invokevirtual 69, 512), (512, .if_icmp .eq 156, 515), (515, .iconst 0, 516), (516, .ireturn, 517), (517, .aload_n 1, 518), (518, .aload_n 0, 519), (519, .iload_n 3, 520), (520, .iconst 1, 521), (521, .iadd, 522), (522, .iaload, 523), (523, .aload_n 0, 524), (524, .iload_n 3, 525), (525, .iconst 2, 526), (526, .iadd, 527), (527, .iaload, 528), (528, .invokevirtual 70, 531), (531, .aload_n 2, 532), (532, .aload_n 0, 533), (533, .iload_n 3, 534), (534, .iconst 1, 535), (535, .iadd, 536), (536, .iaload, 537), (537, .aload_n 0, 538), (538, .iload_n 3, 539), (539, .iconst 2, 540), (540, .iadd, 541), (541, .iaload, 542), (542, .invokevirtual 73, 545), (545, .if_icmp .eq 123, 548), (548, .iconst 0, 549), (549, .ireturn, 550), (550, .aload_n 1, 551), (551, .aload_n 0, 552), (552, .iload_n 3, 553), (553, .iconst 1, 554), (554, .iadd, 555), (555, .iaload, 556), (556, .invokevirtual 74, 559), (559, .aload_n 2, 560), (560, .aload_n 0, 561), (561, .iload_n 3, 562), (562, .iconst 1, 563), (563, .iadd, 564), (564, .iaload, 565), (565, .invokevirtual 77, 568), (568, .if_icmp .eq 100, 571), (571, .iconst 0, 572), (572, .ireturn, 573), (573, .aload_n 1, 574), (574, .aload_n 0, 575), (575, .iload_n 3, 576), (576, .iconst 1, 577), (577, .iadd, 578), (578, .iaload, 579), (579, .invokevirtual 78, 582), (582, .aload_n 2, 583), (583, .aload_n 0, 584), (584, .iload_n 3, 585), (585, .iconst 1, 586), (586, .iadd, 587), (587, .iaload, 588), (588, .invokevirtual 81, 591), (591, .if_icmp .eq 77, 594), (594, .iconst 0, 595), (595, .ireturn, 596), (596, .aload_n 1, 597), (597, .invokevirtual 82, 600), (600, .aload_n 2, 601), (601, .invokevirtual 85, 604), (604, .if_icmp .eq 64, 607), (607, .iconst 0, 608), (608, .ireturn, 609), (609, .aload_n 1, 610), (610, .aload_n 0, 611), (611, .iload_n 3, 612), (612, .iconst 1, 613), (613, .iadd, 614), (614, .iaload, 615), (615, .invokevirtual 86, 618), (618, .aload_n 2, 619), (619, .aload_n 0, 620), (620, .iload_n 3, 621), (621, .iconst 1, 622), (622, .iadd, 623), (623, .iaload, 624), (624, .invokevirtual 89, 627), (627, .if_icmp .eq 41, 630), (630, .iconst 0, 631), (631, .ireturn, 632), (632, .aload_n 1, 633), (633, .invokevirtual 90, 636), (636, .aload_n 2, 637), (637, .invokevirtual 93, 640), (640, .if_icmp .eq 28, 643), (643, .iconst 0, 644), (644, .ireturn, 645), (645, .aload_n 1, 646), (646, .aload_n 0, 647), (647, .iload_n 3, 648), (648, .iconst 1, 649), (649, .iadd, 650), (650, .iaload, 651), (651, .invokevirtual 94, 654), (654, .aload_n 2, 655), (655, .aload_n 0, 656), (656, .iload_n 3, 657), (657, .iconst 1, 658), (658, .iadd, 659), (659, .iaload, 660), (660, .invokevirtual 97, 663), (663, .if_icmp .eq 5, 666), (666, .iconst 0, 667), (667, .ireturn, 668), (668, .iinc 3 5, 671), (671, .goto (-653), 674), (674, .iconst 1, 675), (675, .ireturn, 676)]
def ml_law : List (Nat × Nat × Nat × MethodName) := [(9, 2, 0, yX9_init), (12, 2, 0, yX10_init), (13, 0, 1, yX9_write), (17, 0, 1, yX10_write), (18, 0, 0, yX9_wipe), (22, 0, 0, yX10_wipe), (23, 0, 0, yX9_fault), (26, 0, 0, yX10_fault), (27, 0, 0, yX9_lay), (30, 0, 0, yX10_lay), (31, 0, 2, yX9_edge), (35, 0, 2, yX10_edge), (36, 0, 1, yX9_turn), (39, 0, 1, yX10_turn), (40, 0, 4, yX9_so), (44, 0, 4, yX10_so), (45, 0, 4, yX9_gone), (48, 0, 4, yX10_gone), (49, 0, 2, yX9_real), (52, 0, 2, yX10_real), (53, 0, 1, yX9_run), (56, 0, 1, yX10_run), (57, 0, 3, yX9_look), (61, 0, 3, yX10_look), (62, 0, 1, yX9_looked), (65, 0, 1, yX10_looked), (66, 0, 3, yX9_may), (69, 0, 3, yX10_may), (70, 0, 2, yX9_state), (73, 0, 2, yX10_state), (74, 0, 1, yX9_found), (77, 0, 1, yX10_found), (78, 0, 1, yX9_path), (81, 0, 1, yX10_path), (82, 0, 0, yX9_mend), (85, 0, 0, yX10_mend), (86, 0, 1, yX9_check), (89, 0, 1, yX10_check), (90, 0, 0, yX9_undo), (93, 0, 0, yX10_undo), (94, 0, 1, yX9_count), (97, 0, 1, yX10_count)]
theorem mp_law_9 : mm_lok R_law (9, 2, 0, yX9_init) := ⟨⟨by decide, by decide, by decide +kernel⟩, tb_in 69 (by decide +kernel) (by decide +kernel), fun h => absurd h (by decide), fun h => absurd h (by decide), fun _ => ⟨tb_in 90 (by decide +kernel) (by decide +kernel), tb_in 91 (by decide +kernel) (by decide +kernel), rfl⟩, fun h => absurd h (by decide)⟩
theorem mp_law_12 : mm_lok R_law (12, 2, 0, yX10_init) := ⟨⟨by decide, by decide, by decide +kernel⟩, tb_in 80 (by decide +kernel) (by decide +kernel), fun h => absurd h (by decide), fun h => absurd h (by decide), fun _ => ⟨tb_in 966 (by decide +kernel) (by decide +kernel), tb_in 967 (by decide +kernel) (by decide +kernel), rfl⟩, fun h => absurd h (by decide)⟩
theorem mp_law_13 : mm_lok R_law (13, 0, 1, yX9_write) := ⟨⟨by decide, by decide, by decide +kernel⟩, tb_in 69 (by decide +kernel) (by decide +kernel), fun _ => ⟨tb_in 455 (by decide +kernel) (by decide +kernel), tb_in 456 (by decide +kernel) (by decide +kernel), tb_in 457 (by decide +kernel) (by decide +kernel)⟩, fun h => absurd h (by decide), fun h => absurd h (by decide), fun h => absurd h (by decide)⟩
theorem mp_law_17 : mm_lok R_law (17, 0, 1, yX10_write) := ⟨⟨by decide, by decide, by decide +kernel⟩, tb_in 80 (by decide +kernel) (by decide +kernel), fun _ => ⟨tb_in 1090 (by decide +kernel) (by decide +kernel), tb_in 1091 (by decide +kernel) (by decide +kernel), tb_in 1092 (by decide +kernel) (by decide +kernel)⟩, fun h => absurd h (by decide), fun h => absurd h (by decide), fun h => absurd h (by decide)⟩
theorem mp_law_18 : mm_lok R_law (18, 0, 0, yX9_wipe) := ⟨⟨by decide, by decide, by decide +kernel⟩, tb_in 69 (by decide +kernel) (by decide +kernel), fun _ => ⟨tb_in 463 (by decide +kernel) (by decide +kernel), tb_in 464 (by decide +kernel) (by decide +kernel), tb_in 465 (by decide +kernel) (by decide +kernel)⟩, fun h => absurd h (by decide), fun h => absurd h (by decide), fun h => absurd h (by decide)⟩
theorem mp_law_22 : mm_lok R_law (22, 0, 0, yX10_wipe) := ⟨⟨by decide, by decide, by decide +kernel⟩, tb_in 80 (by decide +kernel) (by decide +kernel), fun _ => ⟨tb_in 1094 (by decide +kernel) (by decide +kernel), tb_in 1095 (by decide +kernel) (by decide +kernel), tb_in 1096 (by decide +kernel) (by decide +kernel)⟩, fun h => absurd h (by decide), fun h => absurd h (by decide), fun h => absurd h (by decide)⟩
theorem mp_law_23 : mm_lok R_law (23, 0, 0, yX9_fault) := ⟨⟨by decide, by decide, by decide +kernel⟩, tb_in 69 (by decide +kernel) (by decide +kernel), fun _ => ⟨tb_in 467 (by decide +kernel) (by decide +kernel), tb_in 468 (by decide +kernel) (by decide +kernel), tb_in 469 (by decide +kernel) (by decide +kernel)⟩, fun h => absurd h (by decide), fun h => absurd h (by decide), fun h => absurd h (by decide)⟩
theorem mp_law_26 : mm_lok R_law (26, 0, 0, yX10_fault) := ⟨⟨by decide, by decide, by decide +kernel⟩, tb_in 80 (by decide +kernel) (by decide +kernel), fun _ => ⟨tb_in 1098 (by decide +kernel) (by decide +kernel), tb_in 1099 (by decide +kernel) (by decide +kernel), tb_in 1100 (by decide +kernel) (by decide +kernel)⟩, fun h => absurd h (by decide), fun h => absurd h (by decide), fun h => absurd h (by decide)⟩
theorem mp_law_27 : mm_lok R_law (27, 0, 0, yX9_lay) := ⟨⟨by decide, by decide, by decide +kernel⟩, tb_in 69 (by decide +kernel) (by decide +kernel), fun _ => ⟨tb_in 471 (by decide +kernel) (by decide +kernel), tb_in 472 (by decide +kernel) (by decide +kernel), tb_in 473 (by decide +kernel) (by decide +kernel)⟩, fun h => absurd h (by decide), fun h => absurd h (by decide), fun h => absurd h (by decide)⟩
theorem mp_law_30 : mm_lok R_law (30, 0, 0, yX10_lay) := ⟨⟨by decide, by decide, by decide +kernel⟩, tb_in 80 (by decide +kernel) (by decide +kernel), fun _ => ⟨tb_in 1136 (by decide +kernel) (by decide +kernel), tb_in 1137 (by decide +kernel) (by decide +kernel), tb_in 1138 (by decide +kernel) (by decide +kernel)⟩, fun h => absurd h (by decide), fun h => absurd h (by decide), fun h => absurd h (by decide)⟩
theorem mp_law_31 : mm_lok R_law (31, 0, 2, yX9_edge) := ⟨⟨by decide, by decide, by decide +kernel⟩, tb_in 69 (by decide +kernel) (by decide +kernel), fun _ => ⟨tb_in 475 (by decide +kernel) (by decide +kernel), tb_in 476 (by decide +kernel) (by decide +kernel), tb_in 477 (by decide +kernel) (by decide +kernel)⟩, fun h => absurd h (by decide), fun h => absurd h (by decide), fun h => absurd h (by decide)⟩
theorem mp_law_35 : mm_lok R_law (35, 0, 2, yX10_edge) := ⟨⟨by decide, by decide, by decide +kernel⟩, tb_in 80 (by decide +kernel) (by decide +kernel), fun _ => ⟨tb_in 1140 (by decide +kernel) (by decide +kernel), tb_in 1141 (by decide +kernel) (by decide +kernel), tb_in 1142 (by decide +kernel) (by decide +kernel)⟩, fun h => absurd h (by decide), fun h => absurd h (by decide), fun h => absurd h (by decide)⟩
theorem mp_law_36 : mm_lok R_law (36, 0, 1, yX9_turn) := ⟨⟨by decide, by decide, by decide +kernel⟩, tb_in 69 (by decide +kernel) (by decide +kernel), fun _ => ⟨tb_in 483 (by decide +kernel) (by decide +kernel), tb_in 484 (by decide +kernel) (by decide +kernel), tb_in 485 (by decide +kernel) (by decide +kernel)⟩, fun h => absurd h (by decide), fun h => absurd h (by decide), fun h => absurd h (by decide)⟩
theorem mp_law_39 : mm_lok R_law (39, 0, 1, yX10_turn) := ⟨⟨by decide, by decide, by decide +kernel⟩, tb_in 80 (by decide +kernel) (by decide +kernel), fun _ => ⟨tb_in 1178 (by decide +kernel) (by decide +kernel), tb_in 1179 (by decide +kernel) (by decide +kernel), tb_in 1180 (by decide +kernel) (by decide +kernel)⟩, fun h => absurd h (by decide), fun h => absurd h (by decide), fun h => absurd h (by decide)⟩
theorem mp_law_40 : mm_lok R_law (40, 0, 4, yX9_so) := ⟨⟨by decide, by decide, by decide +kernel⟩, tb_in 69 (by decide +kernel) (by decide +kernel), fun _ => ⟨tb_in 499 (by decide +kernel) (by decide +kernel), tb_in 500 (by decide +kernel) (by decide +kernel), tb_in 501 (by decide +kernel) (by decide +kernel)⟩, fun h => absurd h (by decide), fun h => absurd h (by decide), fun h => absurd h (by decide)⟩
theorem mp_law_44 : mm_lok R_law (44, 0, 4, yX10_so) := ⟨⟨by decide, by decide, by decide +kernel⟩, tb_in 80 (by decide +kernel) (by decide +kernel), fun _ => ⟨tb_in 1148 (by decide +kernel) (by decide +kernel), tb_in 1149 (by decide +kernel) (by decide +kernel), tb_in 1150 (by decide +kernel) (by decide +kernel)⟩, fun h => absurd h (by decide), fun h => absurd h (by decide), fun h => absurd h (by decide)⟩
theorem mp_law_45 : mm_lok R_law (45, 0, 4, yX9_gone) := ⟨⟨by decide, by decide, by decide +kernel⟩, tb_in 69 (by decide +kernel) (by decide +kernel), fun _ => ⟨tb_in 518 (by decide +kernel) (by decide +kernel), tb_in 519 (by decide +kernel) (by decide +kernel), tb_in 520 (by decide +kernel) (by decide +kernel)⟩, fun h => absurd h (by decide), fun h => absurd h (by decide), fun h => absurd h (by decide)⟩
theorem mp_law_48 : mm_lok R_law (48, 0, 4, yX10_gone) := ⟨⟨by decide, by decide, by decide +kernel⟩, tb_in 80 (by decide +kernel) (by decide +kernel), fun _ => ⟨tb_in 1166 (by decide +kernel) (by decide +kernel), tb_in 1167 (by decide +kernel) (by decide +kernel), tb_in 1168 (by decide +kernel) (by decide +kernel)⟩, fun h => absurd h (by decide), fun h => absurd h (by decide), fun h => absurd h (by decide)⟩
theorem mp_law_49 : mm_lok R_law (49, 0, 2, yX9_real) := ⟨⟨by decide, by decide, by decide +kernel⟩, tb_in 69 (by decide +kernel) (by decide +kernel), fun _ => ⟨tb_in 526 (by decide +kernel) (by decide +kernel), tb_in 527 (by decide +kernel) (by decide +kernel), tb_in 528 (by decide +kernel) (by decide +kernel)⟩, fun h => absurd h (by decide), fun h => absurd h (by decide), fun h => absurd h (by decide)⟩
theorem mp_law_52 : mm_lok R_law (52, 0, 2, yX10_real) := ⟨⟨by decide, by decide, by decide +kernel⟩, tb_in 80 (by decide +kernel) (by decide +kernel), fun _ => ⟨tb_in 1201 (by decide +kernel) (by decide +kernel), tb_in 1202 (by decide +kernel) (by decide +kernel), tb_in 1203 (by decide +kernel) (by decide +kernel)⟩, fun h => absurd h (by decide), fun h => absurd h (by decide), fun h => absurd h (by decide)⟩
theorem mp_law_53 : mm_lok R_law (53, 0, 1, yX9_run) := ⟨⟨by decide, by decide, by decide +kernel⟩, tb_in 69 (by decide +kernel) (by decide +kernel), fun _ => ⟨tb_in 630 (by decide +kernel) (by decide +kernel), tb_in 631 (by decide +kernel) (by decide +kernel), tb_in 632 (by decide +kernel) (by decide +kernel)⟩, fun h => absurd h (by decide), fun h => absurd h (by decide), fun h => absurd h (by decide)⟩
theorem mp_law_56 : mm_lok R_law (56, 0, 1, yX10_run) := ⟨⟨by decide, by decide, by decide +kernel⟩, tb_in 80 (by decide +kernel) (by decide +kernel), fun _ => ⟨tb_in 1225 (by decide +kernel) (by decide +kernel), tb_in 1226 (by decide +kernel) (by decide +kernel), tb_in 1227 (by decide +kernel) (by decide +kernel)⟩, fun h => absurd h (by decide), fun h => absurd h (by decide), fun h => absurd h (by decide)⟩
theorem mp_law_57 : mm_lok R_law (57, 0, 3, yX9_look) := ⟨⟨by decide, by decide, by decide +kernel⟩, tb_in 69 (by decide +kernel) (by decide +kernel), fun _ => ⟨tb_in 638 (by decide +kernel) (by decide +kernel), tb_in 639 (by decide +kernel) (by decide +kernel), tb_in 640 (by decide +kernel) (by decide +kernel)⟩, fun h => absurd h (by decide), fun h => absurd h (by decide), fun h => absurd h (by decide)⟩
theorem mp_law_61 : mm_lok R_law (61, 0, 3, yX10_look) := ⟨⟨by decide, by decide, by decide +kernel⟩, tb_in 80 (by decide +kernel) (by decide +kernel), fun _ => ⟨tb_in 1186 (by decide +kernel) (by decide +kernel), tb_in 1187 (by decide +kernel) (by decide +kernel), tb_in 1188 (by decide +kernel) (by decide +kernel)⟩, fun h => absurd h (by decide), fun h => absurd h (by decide), fun h => absurd h (by decide)⟩
theorem mp_law_62 : mm_lok R_law (62, 0, 1, yX9_looked) := ⟨⟨by decide, by decide, by decide +kernel⟩, tb_in 69 (by decide +kernel) (by decide +kernel), fun _ => ⟨tb_in 648 (by decide +kernel) (by decide +kernel), tb_in 649 (by decide +kernel) (by decide +kernel), tb_in 650 (by decide +kernel) (by decide +kernel)⟩, fun h => absurd h (by decide), fun h => absurd h (by decide), fun h => absurd h (by decide)⟩
theorem mp_law_65 : mm_lok R_law (65, 0, 1, yX10_looked) := ⟨⟨by decide, by decide, by decide +kernel⟩, tb_in 80 (by decide +kernel) (by decide +kernel), fun _ => ⟨tb_in 1197 (by decide +kernel) (by decide +kernel), tb_in 1198 (by decide +kernel) (by decide +kernel), tb_in 1199 (by decide +kernel) (by decide +kernel)⟩, fun h => absurd h (by decide), fun h => absurd h (by decide), fun h => absurd h (by decide)⟩
theorem mp_law_66 : mm_lok R_law (66, 0, 3, yX9_may) := ⟨⟨by decide, by decide, by decide +kernel⟩, tb_in 69 (by decide +kernel) (by decide +kernel), fun _ => ⟨tb_in 652 (by decide +kernel) (by decide +kernel), tb_in 653 (by decide +kernel) (by decide +kernel), tb_in 654 (by decide +kernel) (by decide +kernel)⟩, fun h => absurd h (by decide), fun h => absurd h (by decide), fun h => absurd h (by decide)⟩
theorem mp_law_69 : mm_lok R_law (69, 0, 3, yX10_may) := ⟨⟨by decide, by decide, by decide +kernel⟩, tb_in 80 (by decide +kernel) (by decide +kernel), fun _ => ⟨tb_in 1237 (by decide +kernel) (by decide +kernel), tb_in 1238 (by decide +kernel) (by decide +kernel), tb_in 1239 (by decide +kernel) (by decide +kernel)⟩, fun h => absurd h (by decide), fun h => absurd h (by decide), fun h => absurd h (by decide)⟩
theorem mp_law_70 : mm_lok R_law (70, 0, 2, yX9_state) := ⟨⟨by decide, by decide, by decide +kernel⟩, tb_in 69 (by decide +kernel) (by decide +kernel), fun _ => ⟨tb_in 843 (by decide +kernel) (by decide +kernel), tb_in 844 (by decide +kernel) (by decide +kernel), tb_in 845 (by decide +kernel) (by decide +kernel)⟩, fun h => absurd h (by decide), fun h => absurd h (by decide), fun h => absurd h (by decide)⟩
theorem mp_law_73 : mm_lok R_law (73, 0, 2, yX10_state) := ⟨⟨by decide, by decide, by decide +kernel⟩, tb_in 80 (by decide +kernel) (by decide +kernel), fun _ => ⟨tb_in 1249 (by decide +kernel) (by decide +kernel), tb_in 1250 (by decide +kernel) (by decide +kernel), tb_in 1251 (by decide +kernel) (by decide +kernel)⟩, fun h => absurd h (by decide), fun h => absurd h (by decide), fun h => absurd h (by decide)⟩
theorem mp_law_74 : mm_lok R_law (74, 0, 1, yX9_found) := ⟨⟨by decide, by decide, by decide +kernel⟩, tb_in 69 (by decide +kernel) (by decide +kernel), fun _ => ⟨tb_in 855 (by decide +kernel) (by decide +kernel), tb_in 856 (by decide +kernel) (by decide +kernel), tb_in 857 (by decide +kernel) (by decide +kernel)⟩, fun h => absurd h (by decide), fun h => absurd h (by decide), fun h => absurd h (by decide)⟩
theorem mp_law_77 : mm_lok R_law (77, 0, 1, yX10_found) := ⟨⟨by decide, by decide, by decide +kernel⟩, tb_in 80 (by decide +kernel) (by decide +kernel), fun _ => ⟨tb_in 1261 (by decide +kernel) (by decide +kernel), tb_in 1262 (by decide +kernel) (by decide +kernel), tb_in 1263 (by decide +kernel) (by decide +kernel)⟩, fun h => absurd h (by decide), fun h => absurd h (by decide), fun h => absurd h (by decide)⟩
theorem mp_law_78 : mm_lok R_law (78, 0, 1, yX9_path) := ⟨⟨by decide, by decide, by decide +kernel⟩, tb_in 69 (by decide +kernel) (by decide +kernel), fun _ => ⟨tb_in 863 (by decide +kernel) (by decide +kernel), tb_in 864 (by decide +kernel) (by decide +kernel), tb_in 865 (by decide +kernel) (by decide +kernel)⟩, fun h => absurd h (by decide), fun h => absurd h (by decide), fun h => absurd h (by decide)⟩
theorem mp_law_81 : mm_lok R_law (81, 0, 1, yX10_path) := ⟨⟨by decide, by decide, by decide +kernel⟩, tb_in 80 (by decide +kernel) (by decide +kernel), fun _ => ⟨tb_in 1265 (by decide +kernel) (by decide +kernel), tb_in 1266 (by decide +kernel) (by decide +kernel), tb_in 1267 (by decide +kernel) (by decide +kernel)⟩, fun h => absurd h (by decide), fun h => absurd h (by decide), fun h => absurd h (by decide)⟩
theorem mp_law_82 : mm_lok R_law (82, 0, 0, yX9_mend) := ⟨⟨by decide, by decide, by decide +kernel⟩, tb_in 69 (by decide +kernel) (by decide +kernel), fun _ => ⟨tb_in 901 (by decide +kernel) (by decide +kernel), tb_in 902 (by decide +kernel) (by decide +kernel), tb_in 903 (by decide +kernel) (by decide +kernel)⟩, fun h => absurd h (by decide), fun h => absurd h (by decide), fun h => absurd h (by decide)⟩
theorem mp_law_85 : mm_lok R_law (85, 0, 0, yX10_mend) := ⟨⟨by decide, by decide, by decide +kernel⟩, tb_in 80 (by decide +kernel) (by decide +kernel), fun _ => ⟨tb_in 1277 (by decide +kernel) (by decide +kernel), tb_in 1278 (by decide +kernel) (by decide +kernel), tb_in 1279 (by decide +kernel) (by decide +kernel)⟩, fun h => absurd h (by decide), fun h => absurd h (by decide), fun h => absurd h (by decide)⟩
theorem mp_law_86 : mm_lok R_law (86, 0, 1, yX9_check) := ⟨⟨by decide, by decide, by decide +kernel⟩, tb_in 69 (by decide +kernel) (by decide +kernel), fun _ => ⟨tb_in 932 (by decide +kernel) (by decide +kernel), tb_in 933 (by decide +kernel) (by decide +kernel), tb_in 934 (by decide +kernel) (by decide +kernel)⟩, fun h => absurd h (by decide), fun h => absurd h (by decide), fun h => absurd h (by decide)⟩
theorem mp_law_89 : mm_lok R_law (89, 0, 1, yX10_check) := ⟨⟨by decide, by decide, by decide +kernel⟩, tb_in 80 (by decide +kernel) (by decide +kernel), fun _ => ⟨tb_in 1293 (by decide +kernel) (by decide +kernel), tb_in 1294 (by decide +kernel) (by decide +kernel), tb_in 1295 (by decide +kernel) (by decide +kernel)⟩, fun h => absurd h (by decide), fun h => absurd h (by decide), fun h => absurd h (by decide)⟩
theorem mp_law_90 : mm_lok R_law (90, 0, 0, yX9_undo) := ⟨⟨by decide, by decide, by decide +kernel⟩, tb_in 69 (by decide +kernel) (by decide +kernel), fun _ => ⟨tb_in 936 (by decide +kernel) (by decide +kernel), tb_in 937 (by decide +kernel) (by decide +kernel), tb_in 938 (by decide +kernel) (by decide +kernel)⟩, fun h => absurd h (by decide), fun h => absurd h (by decide), fun h => absurd h (by decide)⟩
theorem mp_law_93 : mm_lok R_law (93, 0, 0, yX10_undo) := ⟨⟨by decide, by decide, by decide +kernel⟩, tb_in 80 (by decide +kernel) (by decide +kernel), fun _ => ⟨tb_in 1174 (by decide +kernel) (by decide +kernel), tb_in 1175 (by decide +kernel) (by decide +kernel), tb_in 1176 (by decide +kernel) (by decide +kernel)⟩, fun h => absurd h (by decide), fun h => absurd h (by decide), fun h => absurd h (by decide)⟩
theorem mp_law_94 : mm_lok R_law (94, 0, 1, yX9_count) := ⟨⟨by decide, by decide, by decide +kernel⟩, tb_in 69 (by decide +kernel) (by decide +kernel), fun _ => ⟨tb_in 952 (by decide +kernel) (by decide +kernel), tb_in 953 (by decide +kernel) (by decide +kernel), tb_in 954 (by decide +kernel) (by decide +kernel)⟩, fun h => absurd h (by decide), fun h => absurd h (by decide), fun h => absurd h (by decide)⟩
theorem mp_law_97 : mm_lok R_law (97, 0, 1, yX10_count) := ⟨⟨by decide, by decide, by decide +kernel⟩, tb_in 80 (by decide +kernel) (by decide +kernel), fun _ => ⟨tb_in 1301 (by decide +kernel) (by decide +kernel), tb_in 1302 (by decide +kernel) (by decide +kernel), tb_in 1303 (by decide +kernel) (by decide +kernel)⟩, fun h => absurd h (by decide), fun h => absurd h (by decide), fun h => absurd h (by decide)⟩
theorem mq_law : ∀ q ∈ ml_law, mm_lok R_law q := List.forall_mem_cons.mpr ⟨mp_law_9, List.forall_mem_cons.mpr ⟨mp_law_12, List.forall_mem_cons.mpr ⟨mp_law_13, List.forall_mem_cons.mpr ⟨mp_law_17, List.forall_mem_cons.mpr ⟨mp_law_18, List.forall_mem_cons.mpr ⟨mp_law_22, List.forall_mem_cons.mpr ⟨mp_law_23, List.forall_mem_cons.mpr ⟨mp_law_26, List.forall_mem_cons.mpr ⟨mp_law_27, List.forall_mem_cons.mpr ⟨mp_law_30, List.forall_mem_cons.mpr ⟨mp_law_31, List.forall_mem_cons.mpr ⟨mp_law_35, List.forall_mem_cons.mpr ⟨mp_law_36, List.forall_mem_cons.mpr ⟨mp_law_39, List.forall_mem_cons.mpr ⟨mp_law_40, List.forall_mem_cons.mpr ⟨mp_law_44, List.forall_mem_cons.mpr ⟨mp_law_45, List.forall_mem_cons.mpr ⟨mp_law_48, List.forall_mem_cons.mpr ⟨mp_law_49, List.forall_mem_cons.mpr ⟨mp_law_52, List.forall_mem_cons.mpr ⟨mp_law_53, List.forall_mem_cons.mpr ⟨mp_law_56, List.forall_mem_cons.mpr ⟨mp_law_57, List.forall_mem_cons.mpr ⟨mp_law_61, List.forall_mem_cons.mpr ⟨mp_law_62, List.forall_mem_cons.mpr ⟨mp_law_65, List.forall_mem_cons.mpr ⟨mp_law_66, List.forall_mem_cons.mpr ⟨mp_law_69, List.forall_mem_cons.mpr ⟨mp_law_70, List.forall_mem_cons.mpr ⟨mp_law_73, List.forall_mem_cons.mpr ⟨mp_law_74, List.forall_mem_cons.mpr ⟨mp_law_77, List.forall_mem_cons.mpr ⟨mp_law_78, List.forall_mem_cons.mpr ⟨mp_law_81, List.forall_mem_cons.mpr ⟨mp_law_82, List.forall_mem_cons.mpr ⟨mp_law_85, List.forall_mem_cons.mpr ⟨mp_law_86, List.forall_mem_cons.mpr ⟨mp_law_89, List.forall_mem_cons.mpr ⟨mp_law_90, List.forall_mem_cons.mpr ⟨mp_law_93, List.forall_mem_cons.mpr ⟨mp_law_94, List.forall_mem_cons.mpr ⟨mp_law_97, fun _ h => absurd h List.not_mem_nil⟩⟩⟩⟩⟩⟩⟩⟩⟩⟩⟩⟩⟩⟩⟩⟩⟩⟩⟩⟩⟩⟩⟩⟩⟩⟩⟩⟩⟩⟩⟩⟩⟩⟩⟩⟩⟩⟩⟩⟩⟩⟩
def K_law : mm_K := ((x, code, 4, ret, R_law), (10, 374, 99), (il_law, [], [], ml_law))
set_option maxRecDepth 100000 in
theorem ok_law : mm_KO K_law := ⟨by decide +kernel, fun _ h => absurd h List.not_mem_nil, mq_law⟩
theorem lw_d (i : Nat) {q : mm_I} (h : il_law[i]? = some q) : decode code q.1 = .ok (q.2.1, q.2.2 - q.1) := (ok_law.1 q (List.mem_of_getElem? h)).1
theorem d_law_0 : decode code 0 = .ok (.new 7, 3) := lw_d 0 (q := (0, .new 7, 3)) rfl
theorem d_law_3 : decode code 3 = .ok (.dup, 1) := lw_d 1 (q := (3, .dup, 4)) rfl
theorem d_law_4 : decode code 4 = .ok (.invokespecial 9, 3) := lw_d 2 (q := (4, .invokespecial 9, 7)) rfl
theorem d_law_7 : decode code 7 = .ok (.astore_n 1, 1) := lw_d 3 (q := (7, .astore_n 1, 8)) rfl
theorem d_law_8 : decode code 8 = .ok (.new 10, 3) := lw_d 4 (q := (8, .new 10, 11)) rfl
theorem d_law_11 : decode code 11 = .ok (.dup, 1) := lw_d 5 (q := (11, .dup, 12)) rfl
theorem d_law_12 : decode code 12 = .ok (.invokespecial 12, 3) := lw_d 6 (q := (12, .invokespecial 12, 15)) rfl
theorem d_law_15 : decode code 15 = .ok (.astore_n 2, 1) := lw_d 7 (q := (15, .astore_n 2, 16)) rfl
theorem d_law_16 : decode code 16 = .ok (.iconst 0, 1) := lw_d 8 (q := (16, .iconst 0, 17)) rfl
theorem d_law_17 : decode code 17 = .ok (.istore_n 3, 1) := lw_d 9 (q := (17, .istore_n 3, 18)) rfl
theorem d_law_18 : decode code 18 = .ok (.iload_n 3, 1) := lw_d 10 (q := (18, .iload_n 3, 19)) rfl
theorem d_law_19 : decode code 19 = .ok (.aload_n 0, 1) := lw_d 11 (q := (19, .aload_n 0, 20)) rfl
theorem d_law_20 : decode code 20 = .ok (.arraylength, 1) := lw_d 12 (q := (20, .arraylength, 21)) rfl
theorem d_law_21 : decode code 21 = .ok (.iconst 5, 1) := lw_d 13 (q := (21, .iconst 5, 22)) rfl
theorem d_law_22 : decode code 22 = .ok (.isub, 1) := lw_d 14 (q := (22, .isub, 23)) rfl
theorem d_law_23 : decode code 23 = .ok (.if_icmp .gt 651, 3) := lw_d 15 (q := (23, .if_icmp .gt 651, 26)) rfl
theorem d_law_26 : decode code 26 = .ok (.aload_n 0, 1) := lw_d 16 (q := (26, .aload_n 0, 27)) rfl
theorem d_law_27 : decode code 27 = .ok (.iload_n 3, 1) := lw_d 17 (q := (27, .iload_n 3, 28)) rfl
theorem d_law_28 : decode code 28 = .ok (.iaload, 1) := lw_d 18 (q := (28, .iaload, 29)) rfl
theorem d_law_29 : decode code 29 = .ok (.bipush 31, 2) := lw_d 19 (q := (29, .bipush 31, 31)) rfl
theorem d_law_31 : decode code 31 = .ok (.iand, 1) := lw_d 20 (q := (31, .iand, 32)) rfl
theorem d_law_32 : decode code 32 = .ok (.tableswitch 636 0 19 #[96, 119, 132, 145, 158, 191, 214, 267, 320, 353, 376, 419, 442, 485, 518, 541, 564, 577, 600, 613], 96) := lw_d 21 (q := (32, .tableswitch 636 0 19 #[96, 119, 132, 145, 158, 191, 214, 267, 320, 353, 376, 419, 442, 485, 518, 541, 564, 577, 600, 613], 128)) rfl
theorem d_law_128 : decode code 128 = .ok (.aload_n 1, 1) := lw_d 22 (q := (128, .aload_n 1, 129)) rfl
theorem d_law_129 : decode code 129 = .ok (.aload_n 0, 1) := lw_d 23 (q := (129, .aload_n 0, 130)) rfl
theorem d_law_130 : decode code 130 = .ok (.iload_n 3, 1) := lw_d 24 (q := (130, .iload_n 3, 131)) rfl
theorem d_law_131 : decode code 131 = .ok (.iconst 1, 1) := lw_d 25 (q := (131, .iconst 1, 132)) rfl
theorem d_law_132 : decode code 132 = .ok (.iadd, 1) := lw_d 26 (q := (132, .iadd, 133)) rfl
theorem d_law_133 : decode code 133 = .ok (.iaload, 1) := lw_d 27 (q := (133, .iaload, 134)) rfl
theorem d_law_134 : decode code 134 = .ok (.invokevirtual 13, 3) := lw_d 28 (q := (134, .invokevirtual 13, 137)) rfl
theorem d_law_137 : decode code 137 = .ok (.aload_n 2, 1) := lw_d 29 (q := (137, .aload_n 2, 138)) rfl
theorem d_law_138 : decode code 138 = .ok (.aload_n 0, 1) := lw_d 30 (q := (138, .aload_n 0, 139)) rfl
theorem d_law_139 : decode code 139 = .ok (.iload_n 3, 1) := lw_d 31 (q := (139, .iload_n 3, 140)) rfl
theorem d_law_140 : decode code 140 = .ok (.iconst 1, 1) := lw_d 32 (q := (140, .iconst 1, 141)) rfl
theorem d_law_141 : decode code 141 = .ok (.iadd, 1) := lw_d 33 (q := (141, .iadd, 142)) rfl
theorem d_law_142 : decode code 142 = .ok (.iaload, 1) := lw_d 34 (q := (142, .iaload, 143)) rfl
theorem d_law_143 : decode code 143 = .ok (.invokevirtual 17, 3) := lw_d 35 (q := (143, .invokevirtual 17, 146)) rfl
theorem d_law_146 : decode code 146 = .ok (.if_icmp .eq 522, 3) := lw_d 36 (q := (146, .if_icmp .eq 522, 149)) rfl
theorem d_law_149 : decode code 149 = .ok (.iconst 0, 1) := lw_d 37 (q := (149, .iconst 0, 150)) rfl
theorem d_law_150 : decode code 150 = .ok (.ireturn, 1) := lw_d 38 (q := (150, .ireturn, 151)) rfl
theorem d_law_151 : decode code 151 = .ok (.aload_n 1, 1) := lw_d 39 (q := (151, .aload_n 1, 152)) rfl
theorem d_law_152 : decode code 152 = .ok (.invokevirtual 18, 3) := lw_d 40 (q := (152, .invokevirtual 18, 155)) rfl
theorem d_law_155 : decode code 155 = .ok (.aload_n 2, 1) := lw_d 41 (q := (155, .aload_n 2, 156)) rfl
theorem d_law_156 : decode code 156 = .ok (.invokevirtual 22, 3) := lw_d 42 (q := (156, .invokevirtual 22, 159)) rfl
theorem d_law_159 : decode code 159 = .ok (.if_icmp .eq 509, 3) := lw_d 43 (q := (159, .if_icmp .eq 509, 162)) rfl
theorem d_law_162 : decode code 162 = .ok (.iconst 0, 1) := lw_d 44 (q := (162, .iconst 0, 163)) rfl
theorem d_law_163 : decode code 163 = .ok (.ireturn, 1) := lw_d 45 (q := (163, .ireturn, 164)) rfl
theorem d_law_164 : decode code 164 = .ok (.aload_n 1, 1) := lw_d 46 (q := (164, .aload_n 1, 165)) rfl
theorem d_law_165 : decode code 165 = .ok (.invokevirtual 23, 3) := lw_d 47 (q := (165, .invokevirtual 23, 168)) rfl
theorem d_law_168 : decode code 168 = .ok (.aload_n 2, 1) := lw_d 48 (q := (168, .aload_n 2, 169)) rfl
theorem d_law_169 : decode code 169 = .ok (.invokevirtual 26, 3) := lw_d 49 (q := (169, .invokevirtual 26, 172)) rfl
theorem d_law_172 : decode code 172 = .ok (.if_icmp .eq 496, 3) := lw_d 50 (q := (172, .if_icmp .eq 496, 175)) rfl
theorem d_law_175 : decode code 175 = .ok (.iconst 0, 1) := lw_d 51 (q := (175, .iconst 0, 176)) rfl
theorem d_law_176 : decode code 176 = .ok (.ireturn, 1) := lw_d 52 (q := (176, .ireturn, 177)) rfl
theorem d_law_177 : decode code 177 = .ok (.aload_n 1, 1) := lw_d 53 (q := (177, .aload_n 1, 178)) rfl
theorem d_law_178 : decode code 178 = .ok (.invokevirtual 27, 3) := lw_d 54 (q := (178, .invokevirtual 27, 181)) rfl
theorem d_law_181 : decode code 181 = .ok (.aload_n 2, 1) := lw_d 55 (q := (181, .aload_n 2, 182)) rfl
theorem d_law_182 : decode code 182 = .ok (.invokevirtual 30, 3) := lw_d 56 (q := (182, .invokevirtual 30, 185)) rfl
theorem d_law_185 : decode code 185 = .ok (.if_icmp .eq 483, 3) := lw_d 57 (q := (185, .if_icmp .eq 483, 188)) rfl
theorem d_law_188 : decode code 188 = .ok (.iconst 0, 1) := lw_d 58 (q := (188, .iconst 0, 189)) rfl
theorem d_law_189 : decode code 189 = .ok (.ireturn, 1) := lw_d 59 (q := (189, .ireturn, 190)) rfl
theorem d_law_190 : decode code 190 = .ok (.aload_n 1, 1) := lw_d 60 (q := (190, .aload_n 1, 191)) rfl
theorem d_law_191 : decode code 191 = .ok (.aload_n 0, 1) := lw_d 61 (q := (191, .aload_n 0, 192)) rfl
theorem d_law_192 : decode code 192 = .ok (.iload_n 3, 1) := lw_d 62 (q := (192, .iload_n 3, 193)) rfl
theorem d_law_193 : decode code 193 = .ok (.iconst 1, 1) := lw_d 63 (q := (193, .iconst 1, 194)) rfl
theorem d_law_194 : decode code 194 = .ok (.iadd, 1) := lw_d 64 (q := (194, .iadd, 195)) rfl
theorem d_law_195 : decode code 195 = .ok (.iaload, 1) := lw_d 65 (q := (195, .iaload, 196)) rfl
theorem d_law_196 : decode code 196 = .ok (.aload_n 0, 1) := lw_d 66 (q := (196, .aload_n 0, 197)) rfl
theorem d_law_197 : decode code 197 = .ok (.iload_n 3, 1) := lw_d 67 (q := (197, .iload_n 3, 198)) rfl
theorem d_law_198 : decode code 198 = .ok (.iconst 2, 1) := lw_d 68 (q := (198, .iconst 2, 199)) rfl
theorem d_law_199 : decode code 199 = .ok (.iadd, 1) := lw_d 69 (q := (199, .iadd, 200)) rfl
theorem d_law_200 : decode code 200 = .ok (.iaload, 1) := lw_d 70 (q := (200, .iaload, 201)) rfl
theorem d_law_201 : decode code 201 = .ok (.invokevirtual 31, 3) := lw_d 71 (q := (201, .invokevirtual 31, 204)) rfl
theorem d_law_204 : decode code 204 = .ok (.aload_n 2, 1) := lw_d 72 (q := (204, .aload_n 2, 205)) rfl
theorem d_law_205 : decode code 205 = .ok (.aload_n 0, 1) := lw_d 73 (q := (205, .aload_n 0, 206)) rfl
theorem d_law_206 : decode code 206 = .ok (.iload_n 3, 1) := lw_d 74 (q := (206, .iload_n 3, 207)) rfl
theorem d_law_207 : decode code 207 = .ok (.iconst 1, 1) := lw_d 75 (q := (207, .iconst 1, 208)) rfl
theorem d_law_208 : decode code 208 = .ok (.iadd, 1) := lw_d 76 (q := (208, .iadd, 209)) rfl
theorem d_law_209 : decode code 209 = .ok (.iaload, 1) := lw_d 77 (q := (209, .iaload, 210)) rfl
theorem d_law_210 : decode code 210 = .ok (.aload_n 0, 1) := lw_d 78 (q := (210, .aload_n 0, 211)) rfl
theorem d_law_211 : decode code 211 = .ok (.iload_n 3, 1) := lw_d 79 (q := (211, .iload_n 3, 212)) rfl
theorem d_law_212 : decode code 212 = .ok (.iconst 2, 1) := lw_d 80 (q := (212, .iconst 2, 213)) rfl
theorem d_law_213 : decode code 213 = .ok (.iadd, 1) := lw_d 81 (q := (213, .iadd, 214)) rfl
theorem d_law_214 : decode code 214 = .ok (.iaload, 1) := lw_d 82 (q := (214, .iaload, 215)) rfl
theorem d_law_215 : decode code 215 = .ok (.invokevirtual 35, 3) := lw_d 83 (q := (215, .invokevirtual 35, 218)) rfl
theorem d_law_218 : decode code 218 = .ok (.if_icmp .eq 450, 3) := lw_d 84 (q := (218, .if_icmp .eq 450, 221)) rfl
theorem d_law_221 : decode code 221 = .ok (.iconst 0, 1) := lw_d 85 (q := (221, .iconst 0, 222)) rfl
theorem d_law_222 : decode code 222 = .ok (.ireturn, 1) := lw_d 86 (q := (222, .ireturn, 223)) rfl
theorem d_law_223 : decode code 223 = .ok (.aload_n 1, 1) := lw_d 87 (q := (223, .aload_n 1, 224)) rfl
theorem d_law_224 : decode code 224 = .ok (.aload_n 0, 1) := lw_d 88 (q := (224, .aload_n 0, 225)) rfl
theorem d_law_225 : decode code 225 = .ok (.iload_n 3, 1) := lw_d 89 (q := (225, .iload_n 3, 226)) rfl
theorem d_law_226 : decode code 226 = .ok (.iconst 1, 1) := lw_d 90 (q := (226, .iconst 1, 227)) rfl
theorem d_law_227 : decode code 227 = .ok (.iadd, 1) := lw_d 91 (q := (227, .iadd, 228)) rfl
theorem d_law_228 : decode code 228 = .ok (.iaload, 1) := lw_d 92 (q := (228, .iaload, 229)) rfl
theorem d_law_229 : decode code 229 = .ok (.invokevirtual 36, 3) := lw_d 93 (q := (229, .invokevirtual 36, 232)) rfl
theorem d_law_232 : decode code 232 = .ok (.aload_n 2, 1) := lw_d 94 (q := (232, .aload_n 2, 233)) rfl
theorem d_law_233 : decode code 233 = .ok (.aload_n 0, 1) := lw_d 95 (q := (233, .aload_n 0, 234)) rfl
theorem d_law_234 : decode code 234 = .ok (.iload_n 3, 1) := lw_d 96 (q := (234, .iload_n 3, 235)) rfl
theorem d_law_235 : decode code 235 = .ok (.iconst 1, 1) := lw_d 97 (q := (235, .iconst 1, 236)) rfl
theorem d_law_236 : decode code 236 = .ok (.iadd, 1) := lw_d 98 (q := (236, .iadd, 237)) rfl
theorem d_law_237 : decode code 237 = .ok (.iaload, 1) := lw_d 99 (q := (237, .iaload, 238)) rfl
theorem d_law_238 : decode code 238 = .ok (.invokevirtual 39, 3) := lw_d 100 (q := (238, .invokevirtual 39, 241)) rfl
theorem d_law_241 : decode code 241 = .ok (.if_icmp .eq 427, 3) := lw_d 101 (q := (241, .if_icmp .eq 427, 244)) rfl
theorem d_law_244 : decode code 244 = .ok (.iconst 0, 1) := lw_d 102 (q := (244, .iconst 0, 245)) rfl
theorem d_law_245 : decode code 245 = .ok (.ireturn, 1) := lw_d 103 (q := (245, .ireturn, 246)) rfl
theorem d_law_246 : decode code 246 = .ok (.aload_n 1, 1) := lw_d 104 (q := (246, .aload_n 1, 247)) rfl
theorem d_law_247 : decode code 247 = .ok (.aload_n 0, 1) := lw_d 105 (q := (247, .aload_n 0, 248)) rfl
theorem d_law_248 : decode code 248 = .ok (.iload_n 3, 1) := lw_d 106 (q := (248, .iload_n 3, 249)) rfl
theorem d_law_249 : decode code 249 = .ok (.iconst 1, 1) := lw_d 107 (q := (249, .iconst 1, 250)) rfl
theorem d_law_250 : decode code 250 = .ok (.iadd, 1) := lw_d 108 (q := (250, .iadd, 251)) rfl
theorem d_law_251 : decode code 251 = .ok (.iaload, 1) := lw_d 109 (q := (251, .iaload, 252)) rfl
theorem d_law_252 : decode code 252 = .ok (.aload_n 0, 1) := lw_d 110 (q := (252, .aload_n 0, 253)) rfl
theorem d_law_253 : decode code 253 = .ok (.iload_n 3, 1) := lw_d 111 (q := (253, .iload_n 3, 254)) rfl
theorem d_law_254 : decode code 254 = .ok (.iconst 2, 1) := lw_d 112 (q := (254, .iconst 2, 255)) rfl
theorem d_law_255 : decode code 255 = .ok (.iadd, 1) := lw_d 113 (q := (255, .iadd, 256)) rfl
theorem d_law_256 : decode code 256 = .ok (.iaload, 1) := lw_d 114 (q := (256, .iaload, 257)) rfl
theorem d_law_257 : decode code 257 = .ok (.aload_n 0, 1) := lw_d 115 (q := (257, .aload_n 0, 258)) rfl
theorem d_law_258 : decode code 258 = .ok (.iload_n 3, 1) := lw_d 116 (q := (258, .iload_n 3, 259)) rfl
theorem d_law_259 : decode code 259 = .ok (.iconst 3, 1) := lw_d 117 (q := (259, .iconst 3, 260)) rfl
theorem d_law_260 : decode code 260 = .ok (.iadd, 1) := lw_d 118 (q := (260, .iadd, 261)) rfl
theorem d_law_261 : decode code 261 = .ok (.iaload, 1) := lw_d 119 (q := (261, .iaload, 262)) rfl
theorem d_law_262 : decode code 262 = .ok (.aload_n 0, 1) := lw_d 120 (q := (262, .aload_n 0, 263)) rfl
theorem d_law_263 : decode code 263 = .ok (.iload_n 3, 1) := lw_d 121 (q := (263, .iload_n 3, 264)) rfl
theorem d_law_264 : decode code 264 = .ok (.iconst 4, 1) := lw_d 122 (q := (264, .iconst 4, 265)) rfl
theorem d_law_265 : decode code 265 = .ok (.iadd, 1) := lw_d 123 (q := (265, .iadd, 266)) rfl
theorem d_law_266 : decode code 266 = .ok (.iaload, 1) := lw_d 124 (q := (266, .iaload, 267)) rfl
theorem d_law_267 : decode code 267 = .ok (.invokevirtual 40, 3) := lw_d 125 (q := (267, .invokevirtual 40, 270)) rfl
theorem d_law_270 : decode code 270 = .ok (.aload_n 2, 1) := lw_d 126 (q := (270, .aload_n 2, 271)) rfl
theorem d_law_271 : decode code 271 = .ok (.aload_n 0, 1) := lw_d 127 (q := (271, .aload_n 0, 272)) rfl
theorem d_law_272 : decode code 272 = .ok (.iload_n 3, 1) := lw_d 128 (q := (272, .iload_n 3, 273)) rfl
theorem d_law_273 : decode code 273 = .ok (.iconst 1, 1) := lw_d 129 (q := (273, .iconst 1, 274)) rfl
theorem d_law_274 : decode code 274 = .ok (.iadd, 1) := lw_d 130 (q := (274, .iadd, 275)) rfl
theorem d_law_275 : decode code 275 = .ok (.iaload, 1) := lw_d 131 (q := (275, .iaload, 276)) rfl
theorem d_law_276 : decode code 276 = .ok (.aload_n 0, 1) := lw_d 132 (q := (276, .aload_n 0, 277)) rfl
theorem d_law_277 : decode code 277 = .ok (.iload_n 3, 1) := lw_d 133 (q := (277, .iload_n 3, 278)) rfl
theorem d_law_278 : decode code 278 = .ok (.iconst 2, 1) := lw_d 134 (q := (278, .iconst 2, 279)) rfl
theorem d_law_279 : decode code 279 = .ok (.iadd, 1) := lw_d 135 (q := (279, .iadd, 280)) rfl
theorem d_law_280 : decode code 280 = .ok (.iaload, 1) := lw_d 136 (q := (280, .iaload, 281)) rfl
theorem d_law_281 : decode code 281 = .ok (.aload_n 0, 1) := lw_d 137 (q := (281, .aload_n 0, 282)) rfl
theorem d_law_282 : decode code 282 = .ok (.iload_n 3, 1) := lw_d 138 (q := (282, .iload_n 3, 283)) rfl
theorem d_law_283 : decode code 283 = .ok (.iconst 3, 1) := lw_d 139 (q := (283, .iconst 3, 284)) rfl
theorem d_law_284 : decode code 284 = .ok (.iadd, 1) := lw_d 140 (q := (284, .iadd, 285)) rfl
theorem d_law_285 : decode code 285 = .ok (.iaload, 1) := lw_d 141 (q := (285, .iaload, 286)) rfl
theorem d_law_286 : decode code 286 = .ok (.aload_n 0, 1) := lw_d 142 (q := (286, .aload_n 0, 287)) rfl
theorem d_law_287 : decode code 287 = .ok (.iload_n 3, 1) := lw_d 143 (q := (287, .iload_n 3, 288)) rfl
theorem d_law_288 : decode code 288 = .ok (.iconst 4, 1) := lw_d 144 (q := (288, .iconst 4, 289)) rfl
theorem d_law_289 : decode code 289 = .ok (.iadd, 1) := lw_d 145 (q := (289, .iadd, 290)) rfl
theorem d_law_290 : decode code 290 = .ok (.iaload, 1) := lw_d 146 (q := (290, .iaload, 291)) rfl
theorem d_law_291 : decode code 291 = .ok (.invokevirtual 44, 3) := lw_d 147 (q := (291, .invokevirtual 44, 294)) rfl
theorem d_law_294 : decode code 294 = .ok (.if_icmp .eq 374, 3) := lw_d 148 (q := (294, .if_icmp .eq 374, 297)) rfl
theorem d_law_297 : decode code 297 = .ok (.iconst 0, 1) := lw_d 149 (q := (297, .iconst 0, 298)) rfl
theorem d_law_298 : decode code 298 = .ok (.ireturn, 1) := lw_d 150 (q := (298, .ireturn, 299)) rfl
theorem d_law_299 : decode code 299 = .ok (.aload_n 1, 1) := lw_d 151 (q := (299, .aload_n 1, 300)) rfl
theorem d_law_300 : decode code 300 = .ok (.aload_n 0, 1) := lw_d 152 (q := (300, .aload_n 0, 301)) rfl
theorem d_law_301 : decode code 301 = .ok (.iload_n 3, 1) := lw_d 153 (q := (301, .iload_n 3, 302)) rfl
theorem d_law_302 : decode code 302 = .ok (.iconst 1, 1) := lw_d 154 (q := (302, .iconst 1, 303)) rfl
theorem d_law_303 : decode code 303 = .ok (.iadd, 1) := lw_d 155 (q := (303, .iadd, 304)) rfl
theorem d_law_304 : decode code 304 = .ok (.iaload, 1) := lw_d 156 (q := (304, .iaload, 305)) rfl
theorem d_law_305 : decode code 305 = .ok (.aload_n 0, 1) := lw_d 157 (q := (305, .aload_n 0, 306)) rfl
theorem d_law_306 : decode code 306 = .ok (.iload_n 3, 1) := lw_d 158 (q := (306, .iload_n 3, 307)) rfl
theorem d_law_307 : decode code 307 = .ok (.iconst 2, 1) := lw_d 159 (q := (307, .iconst 2, 308)) rfl
theorem d_law_308 : decode code 308 = .ok (.iadd, 1) := lw_d 160 (q := (308, .iadd, 309)) rfl
theorem d_law_309 : decode code 309 = .ok (.iaload, 1) := lw_d 161 (q := (309, .iaload, 310)) rfl
theorem d_law_310 : decode code 310 = .ok (.aload_n 0, 1) := lw_d 162 (q := (310, .aload_n 0, 311)) rfl
theorem d_law_311 : decode code 311 = .ok (.iload_n 3, 1) := lw_d 163 (q := (311, .iload_n 3, 312)) rfl
theorem d_law_312 : decode code 312 = .ok (.iconst 3, 1) := lw_d 164 (q := (312, .iconst 3, 313)) rfl
theorem d_law_313 : decode code 313 = .ok (.iadd, 1) := lw_d 165 (q := (313, .iadd, 314)) rfl
theorem d_law_314 : decode code 314 = .ok (.iaload, 1) := lw_d 166 (q := (314, .iaload, 315)) rfl
theorem d_law_315 : decode code 315 = .ok (.aload_n 0, 1) := lw_d 167 (q := (315, .aload_n 0, 316)) rfl
theorem d_law_316 : decode code 316 = .ok (.iload_n 3, 1) := lw_d 168 (q := (316, .iload_n 3, 317)) rfl
theorem d_law_317 : decode code 317 = .ok (.iconst 4, 1) := lw_d 169 (q := (317, .iconst 4, 318)) rfl
theorem d_law_318 : decode code 318 = .ok (.iadd, 1) := lw_d 170 (q := (318, .iadd, 319)) rfl
theorem d_law_319 : decode code 319 = .ok (.iaload, 1) := lw_d 171 (q := (319, .iaload, 320)) rfl
theorem d_law_320 : decode code 320 = .ok (.invokevirtual 45, 3) := lw_d 172 (q := (320, .invokevirtual 45, 323)) rfl
theorem d_law_323 : decode code 323 = .ok (.aload_n 2, 1) := lw_d 173 (q := (323, .aload_n 2, 324)) rfl
theorem d_law_324 : decode code 324 = .ok (.aload_n 0, 1) := lw_d 174 (q := (324, .aload_n 0, 325)) rfl
theorem d_law_325 : decode code 325 = .ok (.iload_n 3, 1) := lw_d 175 (q := (325, .iload_n 3, 326)) rfl
theorem d_law_326 : decode code 326 = .ok (.iconst 1, 1) := lw_d 176 (q := (326, .iconst 1, 327)) rfl
theorem d_law_327 : decode code 327 = .ok (.iadd, 1) := lw_d 177 (q := (327, .iadd, 328)) rfl
theorem d_law_328 : decode code 328 = .ok (.iaload, 1) := lw_d 178 (q := (328, .iaload, 329)) rfl
theorem d_law_329 : decode code 329 = .ok (.aload_n 0, 1) := lw_d 179 (q := (329, .aload_n 0, 330)) rfl
theorem d_law_330 : decode code 330 = .ok (.iload_n 3, 1) := lw_d 180 (q := (330, .iload_n 3, 331)) rfl
theorem d_law_331 : decode code 331 = .ok (.iconst 2, 1) := lw_d 181 (q := (331, .iconst 2, 332)) rfl
theorem d_law_332 : decode code 332 = .ok (.iadd, 1) := lw_d 182 (q := (332, .iadd, 333)) rfl
theorem d_law_333 : decode code 333 = .ok (.iaload, 1) := lw_d 183 (q := (333, .iaload, 334)) rfl
theorem d_law_334 : decode code 334 = .ok (.aload_n 0, 1) := lw_d 184 (q := (334, .aload_n 0, 335)) rfl
theorem d_law_335 : decode code 335 = .ok (.iload_n 3, 1) := lw_d 185 (q := (335, .iload_n 3, 336)) rfl
theorem d_law_336 : decode code 336 = .ok (.iconst 3, 1) := lw_d 186 (q := (336, .iconst 3, 337)) rfl
theorem d_law_337 : decode code 337 = .ok (.iadd, 1) := lw_d 187 (q := (337, .iadd, 338)) rfl
theorem d_law_338 : decode code 338 = .ok (.iaload, 1) := lw_d 188 (q := (338, .iaload, 339)) rfl
theorem d_law_339 : decode code 339 = .ok (.aload_n 0, 1) := lw_d 189 (q := (339, .aload_n 0, 340)) rfl
theorem d_law_340 : decode code 340 = .ok (.iload_n 3, 1) := lw_d 190 (q := (340, .iload_n 3, 341)) rfl
theorem d_law_341 : decode code 341 = .ok (.iconst 4, 1) := lw_d 191 (q := (341, .iconst 4, 342)) rfl
theorem d_law_342 : decode code 342 = .ok (.iadd, 1) := lw_d 192 (q := (342, .iadd, 343)) rfl
theorem d_law_343 : decode code 343 = .ok (.iaload, 1) := lw_d 193 (q := (343, .iaload, 344)) rfl
theorem d_law_344 : decode code 344 = .ok (.invokevirtual 48, 3) := lw_d 194 (q := (344, .invokevirtual 48, 347)) rfl
theorem d_law_347 : decode code 347 = .ok (.if_icmp .eq 321, 3) := lw_d 195 (q := (347, .if_icmp .eq 321, 350)) rfl
theorem d_law_350 : decode code 350 = .ok (.iconst 0, 1) := lw_d 196 (q := (350, .iconst 0, 351)) rfl
theorem d_law_351 : decode code 351 = .ok (.ireturn, 1) := lw_d 197 (q := (351, .ireturn, 352)) rfl
theorem d_law_352 : decode code 352 = .ok (.aload_n 1, 1) := lw_d 198 (q := (352, .aload_n 1, 353)) rfl
theorem d_law_353 : decode code 353 = .ok (.aload_n 0, 1) := lw_d 199 (q := (353, .aload_n 0, 354)) rfl
theorem d_law_354 : decode code 354 = .ok (.iload_n 3, 1) := lw_d 200 (q := (354, .iload_n 3, 355)) rfl
theorem d_law_355 : decode code 355 = .ok (.iconst 1, 1) := lw_d 201 (q := (355, .iconst 1, 356)) rfl
theorem d_law_356 : decode code 356 = .ok (.iadd, 1) := lw_d 202 (q := (356, .iadd, 357)) rfl
theorem d_law_357 : decode code 357 = .ok (.iaload, 1) := lw_d 203 (q := (357, .iaload, 358)) rfl
theorem d_law_358 : decode code 358 = .ok (.aload_n 0, 1) := lw_d 204 (q := (358, .aload_n 0, 359)) rfl
theorem d_law_359 : decode code 359 = .ok (.iload_n 3, 1) := lw_d 205 (q := (359, .iload_n 3, 360)) rfl
theorem d_law_360 : decode code 360 = .ok (.iconst 2, 1) := lw_d 206 (q := (360, .iconst 2, 361)) rfl
theorem d_law_361 : decode code 361 = .ok (.iadd, 1) := lw_d 207 (q := (361, .iadd, 362)) rfl
theorem d_law_362 : decode code 362 = .ok (.iaload, 1) := lw_d 208 (q := (362, .iaload, 363)) rfl
theorem d_law_363 : decode code 363 = .ok (.invokevirtual 49, 3) := lw_d 209 (q := (363, .invokevirtual 49, 366)) rfl
theorem d_law_366 : decode code 366 = .ok (.aload_n 2, 1) := lw_d 210 (q := (366, .aload_n 2, 367)) rfl
theorem d_law_367 : decode code 367 = .ok (.aload_n 0, 1) := lw_d 211 (q := (367, .aload_n 0, 368)) rfl
theorem d_law_368 : decode code 368 = .ok (.iload_n 3, 1) := lw_d 212 (q := (368, .iload_n 3, 369)) rfl
theorem d_law_369 : decode code 369 = .ok (.iconst 1, 1) := lw_d 213 (q := (369, .iconst 1, 370)) rfl
theorem d_law_370 : decode code 370 = .ok (.iadd, 1) := lw_d 214 (q := (370, .iadd, 371)) rfl
theorem d_law_371 : decode code 371 = .ok (.iaload, 1) := lw_d 215 (q := (371, .iaload, 372)) rfl
theorem d_law_372 : decode code 372 = .ok (.aload_n 0, 1) := lw_d 216 (q := (372, .aload_n 0, 373)) rfl
theorem d_law_373 : decode code 373 = .ok (.iload_n 3, 1) := lw_d 217 (q := (373, .iload_n 3, 374)) rfl
theorem d_law_374 : decode code 374 = .ok (.iconst 2, 1) := lw_d 218 (q := (374, .iconst 2, 375)) rfl
theorem d_law_375 : decode code 375 = .ok (.iadd, 1) := lw_d 219 (q := (375, .iadd, 376)) rfl
theorem d_law_376 : decode code 376 = .ok (.iaload, 1) := lw_d 220 (q := (376, .iaload, 377)) rfl
theorem d_law_377 : decode code 377 = .ok (.invokevirtual 52, 3) := lw_d 221 (q := (377, .invokevirtual 52, 380)) rfl
theorem d_law_380 : decode code 380 = .ok (.if_icmp .eq 288, 3) := lw_d 222 (q := (380, .if_icmp .eq 288, 383)) rfl
theorem d_law_383 : decode code 383 = .ok (.iconst 0, 1) := lw_d 223 (q := (383, .iconst 0, 384)) rfl
theorem d_law_384 : decode code 384 = .ok (.ireturn, 1) := lw_d 224 (q := (384, .ireturn, 385)) rfl
theorem d_law_385 : decode code 385 = .ok (.aload_n 1, 1) := lw_d 225 (q := (385, .aload_n 1, 386)) rfl
theorem d_law_386 : decode code 386 = .ok (.aload_n 0, 1) := lw_d 226 (q := (386, .aload_n 0, 387)) rfl
theorem d_law_387 : decode code 387 = .ok (.iload_n 3, 1) := lw_d 227 (q := (387, .iload_n 3, 388)) rfl
theorem d_law_388 : decode code 388 = .ok (.iconst 1, 1) := lw_d 228 (q := (388, .iconst 1, 389)) rfl
theorem d_law_389 : decode code 389 = .ok (.iadd, 1) := lw_d 229 (q := (389, .iadd, 390)) rfl
theorem d_law_390 : decode code 390 = .ok (.iaload, 1) := lw_d 230 (q := (390, .iaload, 391)) rfl
theorem d_law_391 : decode code 391 = .ok (.invokevirtual 53, 3) := lw_d 231 (q := (391, .invokevirtual 53, 394)) rfl
theorem d_law_394 : decode code 394 = .ok (.aload_n 2, 1) := lw_d 232 (q := (394, .aload_n 2, 395)) rfl
theorem d_law_395 : decode code 395 = .ok (.aload_n 0, 1) := lw_d 233 (q := (395, .aload_n 0, 396)) rfl
theorem d_law_396 : decode code 396 = .ok (.iload_n 3, 1) := lw_d 234 (q := (396, .iload_n 3, 397)) rfl
theorem d_law_397 : decode code 397 = .ok (.iconst 1, 1) := lw_d 235 (q := (397, .iconst 1, 398)) rfl
theorem d_law_398 : decode code 398 = .ok (.iadd, 1) := lw_d 236 (q := (398, .iadd, 399)) rfl
theorem d_law_399 : decode code 399 = .ok (.iaload, 1) := lw_d 237 (q := (399, .iaload, 400)) rfl
theorem d_law_400 : decode code 400 = .ok (.invokevirtual 56, 3) := lw_d 238 (q := (400, .invokevirtual 56, 403)) rfl
theorem d_law_403 : decode code 403 = .ok (.if_icmp .eq 265, 3) := lw_d 239 (q := (403, .if_icmp .eq 265, 406)) rfl
theorem d_law_406 : decode code 406 = .ok (.iconst 0, 1) := lw_d 240 (q := (406, .iconst 0, 407)) rfl
theorem d_law_407 : decode code 407 = .ok (.ireturn, 1) := lw_d 241 (q := (407, .ireturn, 408)) rfl
theorem d_law_408 : decode code 408 = .ok (.aload_n 1, 1) := lw_d 242 (q := (408, .aload_n 1, 409)) rfl
theorem d_law_409 : decode code 409 = .ok (.aload_n 0, 1) := lw_d 243 (q := (409, .aload_n 0, 410)) rfl
theorem d_law_410 : decode code 410 = .ok (.iload_n 3, 1) := lw_d 244 (q := (410, .iload_n 3, 411)) rfl
theorem d_law_411 : decode code 411 = .ok (.iconst 1, 1) := lw_d 245 (q := (411, .iconst 1, 412)) rfl
theorem d_law_412 : decode code 412 = .ok (.iadd, 1) := lw_d 246 (q := (412, .iadd, 413)) rfl
theorem d_law_413 : decode code 413 = .ok (.iaload, 1) := lw_d 247 (q := (413, .iaload, 414)) rfl
theorem d_law_414 : decode code 414 = .ok (.aload_n 0, 1) := lw_d 248 (q := (414, .aload_n 0, 415)) rfl
theorem d_law_415 : decode code 415 = .ok (.iload_n 3, 1) := lw_d 249 (q := (415, .iload_n 3, 416)) rfl
theorem d_law_416 : decode code 416 = .ok (.iconst 2, 1) := lw_d 250 (q := (416, .iconst 2, 417)) rfl
theorem d_law_417 : decode code 417 = .ok (.iadd, 1) := lw_d 251 (q := (417, .iadd, 418)) rfl
theorem d_law_418 : decode code 418 = .ok (.iaload, 1) := lw_d 252 (q := (418, .iaload, 419)) rfl
theorem d_law_419 : decode code 419 = .ok (.aload_n 0, 1) := lw_d 253 (q := (419, .aload_n 0, 420)) rfl
theorem d_law_420 : decode code 420 = .ok (.iload_n 3, 1) := lw_d 254 (q := (420, .iload_n 3, 421)) rfl
theorem d_law_421 : decode code 421 = .ok (.iconst 3, 1) := lw_d 255 (q := (421, .iconst 3, 422)) rfl
theorem d_law_422 : decode code 422 = .ok (.iadd, 1) := lw_d 256 (q := (422, .iadd, 423)) rfl
theorem d_law_423 : decode code 423 = .ok (.iaload, 1) := lw_d 257 (q := (423, .iaload, 424)) rfl
theorem d_law_424 : decode code 424 = .ok (.invokevirtual 57, 3) := lw_d 258 (q := (424, .invokevirtual 57, 427)) rfl
theorem d_law_427 : decode code 427 = .ok (.aload_n 2, 1) := lw_d 259 (q := (427, .aload_n 2, 428)) rfl
theorem d_law_428 : decode code 428 = .ok (.aload_n 0, 1) := lw_d 260 (q := (428, .aload_n 0, 429)) rfl
theorem d_law_429 : decode code 429 = .ok (.iload_n 3, 1) := lw_d 261 (q := (429, .iload_n 3, 430)) rfl
theorem d_law_430 : decode code 430 = .ok (.iconst 1, 1) := lw_d 262 (q := (430, .iconst 1, 431)) rfl
theorem d_law_431 : decode code 431 = .ok (.iadd, 1) := lw_d 263 (q := (431, .iadd, 432)) rfl
theorem d_law_432 : decode code 432 = .ok (.iaload, 1) := lw_d 264 (q := (432, .iaload, 433)) rfl
theorem d_law_433 : decode code 433 = .ok (.aload_n 0, 1) := lw_d 265 (q := (433, .aload_n 0, 434)) rfl
theorem d_law_434 : decode code 434 = .ok (.iload_n 3, 1) := lw_d 266 (q := (434, .iload_n 3, 435)) rfl
theorem d_law_435 : decode code 435 = .ok (.iconst 2, 1) := lw_d 267 (q := (435, .iconst 2, 436)) rfl
theorem d_law_436 : decode code 436 = .ok (.iadd, 1) := lw_d 268 (q := (436, .iadd, 437)) rfl
theorem d_law_437 : decode code 437 = .ok (.iaload, 1) := lw_d 269 (q := (437, .iaload, 438)) rfl
theorem d_law_438 : decode code 438 = .ok (.aload_n 0, 1) := lw_d 270 (q := (438, .aload_n 0, 439)) rfl
theorem d_law_439 : decode code 439 = .ok (.iload_n 3, 1) := lw_d 271 (q := (439, .iload_n 3, 440)) rfl
theorem d_law_440 : decode code 440 = .ok (.iconst 3, 1) := lw_d 272 (q := (440, .iconst 3, 441)) rfl
theorem d_law_441 : decode code 441 = .ok (.iadd, 1) := lw_d 273 (q := (441, .iadd, 442)) rfl
theorem d_law_442 : decode code 442 = .ok (.iaload, 1) := lw_d 274 (q := (442, .iaload, 443)) rfl
theorem d_law_443 : decode code 443 = .ok (.invokevirtual 61, 3) := lw_d 275 (q := (443, .invokevirtual 61, 446)) rfl
theorem d_law_446 : decode code 446 = .ok (.if_icmp .eq 222, 3) := lw_d 276 (q := (446, .if_icmp .eq 222, 449)) rfl
theorem d_law_449 : decode code 449 = .ok (.iconst 0, 1) := lw_d 277 (q := (449, .iconst 0, 450)) rfl
theorem d_law_450 : decode code 450 = .ok (.ireturn, 1) := lw_d 278 (q := (450, .ireturn, 451)) rfl
theorem d_law_451 : decode code 451 = .ok (.aload_n 1, 1) := lw_d 279 (q := (451, .aload_n 1, 452)) rfl
theorem d_law_452 : decode code 452 = .ok (.aload_n 0, 1) := lw_d 280 (q := (452, .aload_n 0, 453)) rfl
theorem d_law_453 : decode code 453 = .ok (.iload_n 3, 1) := lw_d 281 (q := (453, .iload_n 3, 454)) rfl
theorem d_law_454 : decode code 454 = .ok (.iconst 1, 1) := lw_d 282 (q := (454, .iconst 1, 455)) rfl
theorem d_law_455 : decode code 455 = .ok (.iadd, 1) := lw_d 283 (q := (455, .iadd, 456)) rfl
theorem d_law_456 : decode code 456 = .ok (.iaload, 1) := lw_d 284 (q := (456, .iaload, 457)) rfl
theorem d_law_457 : decode code 457 = .ok (.invokevirtual 62, 3) := lw_d 285 (q := (457, .invokevirtual 62, 460)) rfl
theorem d_law_460 : decode code 460 = .ok (.aload_n 2, 1) := lw_d 286 (q := (460, .aload_n 2, 461)) rfl
theorem d_law_461 : decode code 461 = .ok (.aload_n 0, 1) := lw_d 287 (q := (461, .aload_n 0, 462)) rfl
theorem d_law_462 : decode code 462 = .ok (.iload_n 3, 1) := lw_d 288 (q := (462, .iload_n 3, 463)) rfl
theorem d_law_463 : decode code 463 = .ok (.iconst 1, 1) := lw_d 289 (q := (463, .iconst 1, 464)) rfl
theorem d_law_464 : decode code 464 = .ok (.iadd, 1) := lw_d 290 (q := (464, .iadd, 465)) rfl
theorem d_law_465 : decode code 465 = .ok (.iaload, 1) := lw_d 291 (q := (465, .iaload, 466)) rfl
theorem d_law_466 : decode code 466 = .ok (.invokevirtual 65, 3) := lw_d 292 (q := (466, .invokevirtual 65, 469)) rfl
theorem d_law_469 : decode code 469 = .ok (.if_icmp .eq 199, 3) := lw_d 293 (q := (469, .if_icmp .eq 199, 472)) rfl
theorem d_law_472 : decode code 472 = .ok (.iconst 0, 1) := lw_d 294 (q := (472, .iconst 0, 473)) rfl
theorem d_law_473 : decode code 473 = .ok (.ireturn, 1) := lw_d 295 (q := (473, .ireturn, 474)) rfl
theorem d_law_474 : decode code 474 = .ok (.aload_n 1, 1) := lw_d 296 (q := (474, .aload_n 1, 475)) rfl
theorem d_law_475 : decode code 475 = .ok (.aload_n 0, 1) := lw_d 297 (q := (475, .aload_n 0, 476)) rfl
theorem d_law_476 : decode code 476 = .ok (.iload_n 3, 1) := lw_d 298 (q := (476, .iload_n 3, 477)) rfl
theorem d_law_477 : decode code 477 = .ok (.iconst 1, 1) := lw_d 299 (q := (477, .iconst 1, 478)) rfl
theorem d_law_478 : decode code 478 = .ok (.iadd, 1) := lw_d 300 (q := (478, .iadd, 479)) rfl
theorem d_law_479 : decode code 479 = .ok (.iaload, 1) := lw_d 301 (q := (479, .iaload, 480)) rfl
theorem d_law_480 : decode code 480 = .ok (.aload_n 0, 1) := lw_d 302 (q := (480, .aload_n 0, 481)) rfl
theorem d_law_481 : decode code 481 = .ok (.iload_n 3, 1) := lw_d 303 (q := (481, .iload_n 3, 482)) rfl
theorem d_law_482 : decode code 482 = .ok (.iconst 2, 1) := lw_d 304 (q := (482, .iconst 2, 483)) rfl
theorem d_law_483 : decode code 483 = .ok (.iadd, 1) := lw_d 305 (q := (483, .iadd, 484)) rfl
theorem d_law_484 : decode code 484 = .ok (.iaload, 1) := lw_d 306 (q := (484, .iaload, 485)) rfl
theorem d_law_485 : decode code 485 = .ok (.aload_n 0, 1) := lw_d 307 (q := (485, .aload_n 0, 486)) rfl
theorem d_law_486 : decode code 486 = .ok (.iload_n 3, 1) := lw_d 308 (q := (486, .iload_n 3, 487)) rfl
theorem d_law_487 : decode code 487 = .ok (.iconst 3, 1) := lw_d 309 (q := (487, .iconst 3, 488)) rfl
theorem d_law_488 : decode code 488 = .ok (.iadd, 1) := lw_d 310 (q := (488, .iadd, 489)) rfl
theorem d_law_489 : decode code 489 = .ok (.iaload, 1) := lw_d 311 (q := (489, .iaload, 490)) rfl
theorem d_law_490 : decode code 490 = .ok (.invokevirtual 66, 3) := lw_d 312 (q := (490, .invokevirtual 66, 493)) rfl
theorem d_law_493 : decode code 493 = .ok (.aload_n 2, 1) := lw_d 313 (q := (493, .aload_n 2, 494)) rfl
theorem d_law_494 : decode code 494 = .ok (.aload_n 0, 1) := lw_d 314 (q := (494, .aload_n 0, 495)) rfl
theorem d_law_495 : decode code 495 = .ok (.iload_n 3, 1) := lw_d 315 (q := (495, .iload_n 3, 496)) rfl
theorem d_law_496 : decode code 496 = .ok (.iconst 1, 1) := lw_d 316 (q := (496, .iconst 1, 497)) rfl
theorem d_law_497 : decode code 497 = .ok (.iadd, 1) := lw_d 317 (q := (497, .iadd, 498)) rfl
theorem d_law_498 : decode code 498 = .ok (.iaload, 1) := lw_d 318 (q := (498, .iaload, 499)) rfl
theorem d_law_499 : decode code 499 = .ok (.aload_n 0, 1) := lw_d 319 (q := (499, .aload_n 0, 500)) rfl
theorem d_law_500 : decode code 500 = .ok (.iload_n 3, 1) := lw_d 320 (q := (500, .iload_n 3, 501)) rfl
theorem d_law_501 : decode code 501 = .ok (.iconst 2, 1) := lw_d 321 (q := (501, .iconst 2, 502)) rfl
theorem d_law_502 : decode code 502 = .ok (.iadd, 1) := lw_d 322 (q := (502, .iadd, 503)) rfl
theorem d_law_503 : decode code 503 = .ok (.iaload, 1) := lw_d 323 (q := (503, .iaload, 504)) rfl
theorem d_law_504 : decode code 504 = .ok (.aload_n 0, 1) := lw_d 324 (q := (504, .aload_n 0, 505)) rfl
theorem d_law_505 : decode code 505 = .ok (.iload_n 3, 1) := lw_d 325 (q := (505, .iload_n 3, 506)) rfl
theorem d_law_506 : decode code 506 = .ok (.iconst 3, 1) := lw_d 326 (q := (506, .iconst 3, 507)) rfl
theorem d_law_507 : decode code 507 = .ok (.iadd, 1) := lw_d 327 (q := (507, .iadd, 508)) rfl
theorem d_law_508 : decode code 508 = .ok (.iaload, 1) := lw_d 328 (q := (508, .iaload, 509)) rfl
theorem d_law_509 : decode code 509 = .ok (.invokevirtual 69, 3) := lw_d 329 (q := (509, .invokevirtual 69, 512)) rfl
theorem d_law_512 : decode code 512 = .ok (.if_icmp .eq 156, 3) := lw_d 330 (q := (512, .if_icmp .eq 156, 515)) rfl
theorem d_law_515 : decode code 515 = .ok (.iconst 0, 1) := lw_d 331 (q := (515, .iconst 0, 516)) rfl
theorem d_law_516 : decode code 516 = .ok (.ireturn, 1) := lw_d 332 (q := (516, .ireturn, 517)) rfl
theorem d_law_517 : decode code 517 = .ok (.aload_n 1, 1) := lw_d 333 (q := (517, .aload_n 1, 518)) rfl
theorem d_law_518 : decode code 518 = .ok (.aload_n 0, 1) := lw_d 334 (q := (518, .aload_n 0, 519)) rfl
theorem d_law_519 : decode code 519 = .ok (.iload_n 3, 1) := lw_d 335 (q := (519, .iload_n 3, 520)) rfl
theorem d_law_520 : decode code 520 = .ok (.iconst 1, 1) := lw_d 336 (q := (520, .iconst 1, 521)) rfl
theorem d_law_521 : decode code 521 = .ok (.iadd, 1) := lw_d 337 (q := (521, .iadd, 522)) rfl
theorem d_law_522 : decode code 522 = .ok (.iaload, 1) := lw_d 338 (q := (522, .iaload, 523)) rfl
theorem d_law_523 : decode code 523 = .ok (.aload_n 0, 1) := lw_d 339 (q := (523, .aload_n 0, 524)) rfl
theorem d_law_524 : decode code 524 = .ok (.iload_n 3, 1) := lw_d 340 (q := (524, .iload_n 3, 525)) rfl
theorem d_law_525 : decode code 525 = .ok (.iconst 2, 1) := lw_d 341 (q := (525, .iconst 2, 526)) rfl
theorem d_law_526 : decode code 526 = .ok (.iadd, 1) := lw_d 342 (q := (526, .iadd, 527)) rfl
theorem d_law_527 : decode code 527 = .ok (.iaload, 1) := lw_d 343 (q := (527, .iaload, 528)) rfl
theorem d_law_528 : decode code 528 = .ok (.invokevirtual 70, 3) := lw_d 344 (q := (528, .invokevirtual 70, 531)) rfl
theorem d_law_531 : decode code 531 = .ok (.aload_n 2, 1) := lw_d 345 (q := (531, .aload_n 2, 532)) rfl
theorem d_law_532 : decode code 532 = .ok (.aload_n 0, 1) := lw_d 346 (q := (532, .aload_n 0, 533)) rfl
theorem d_law_533 : decode code 533 = .ok (.iload_n 3, 1) := lw_d 347 (q := (533, .iload_n 3, 534)) rfl
theorem d_law_534 : decode code 534 = .ok (.iconst 1, 1) := lw_d 348 (q := (534, .iconst 1, 535)) rfl
theorem d_law_535 : decode code 535 = .ok (.iadd, 1) := lw_d 349 (q := (535, .iadd, 536)) rfl
theorem d_law_536 : decode code 536 = .ok (.iaload, 1) := lw_d 350 (q := (536, .iaload, 537)) rfl
theorem d_law_537 : decode code 537 = .ok (.aload_n 0, 1) := lw_d 351 (q := (537, .aload_n 0, 538)) rfl
theorem d_law_538 : decode code 538 = .ok (.iload_n 3, 1) := lw_d 352 (q := (538, .iload_n 3, 539)) rfl
theorem d_law_539 : decode code 539 = .ok (.iconst 2, 1) := lw_d 353 (q := (539, .iconst 2, 540)) rfl
theorem d_law_540 : decode code 540 = .ok (.iadd, 1) := lw_d 354 (q := (540, .iadd, 541)) rfl
theorem d_law_541 : decode code 541 = .ok (.iaload, 1) := lw_d 355 (q := (541, .iaload, 542)) rfl
theorem d_law_542 : decode code 542 = .ok (.invokevirtual 73, 3) := lw_d 356 (q := (542, .invokevirtual 73, 545)) rfl
theorem d_law_545 : decode code 545 = .ok (.if_icmp .eq 123, 3) := lw_d 357 (q := (545, .if_icmp .eq 123, 548)) rfl
theorem d_law_548 : decode code 548 = .ok (.iconst 0, 1) := lw_d 358 (q := (548, .iconst 0, 549)) rfl
theorem d_law_549 : decode code 549 = .ok (.ireturn, 1) := lw_d 359 (q := (549, .ireturn, 550)) rfl
theorem d_law_550 : decode code 550 = .ok (.aload_n 1, 1) := lw_d 360 (q := (550, .aload_n 1, 551)) rfl
theorem d_law_551 : decode code 551 = .ok (.aload_n 0, 1) := lw_d 361 (q := (551, .aload_n 0, 552)) rfl
theorem d_law_552 : decode code 552 = .ok (.iload_n 3, 1) := lw_d 362 (q := (552, .iload_n 3, 553)) rfl
theorem d_law_553 : decode code 553 = .ok (.iconst 1, 1) := lw_d 363 (q := (553, .iconst 1, 554)) rfl
theorem d_law_554 : decode code 554 = .ok (.iadd, 1) := lw_d 364 (q := (554, .iadd, 555)) rfl
theorem d_law_555 : decode code 555 = .ok (.iaload, 1) := lw_d 365 (q := (555, .iaload, 556)) rfl
theorem d_law_556 : decode code 556 = .ok (.invokevirtual 74, 3) := lw_d 366 (q := (556, .invokevirtual 74, 559)) rfl
theorem d_law_559 : decode code 559 = .ok (.aload_n 2, 1) := lw_d 367 (q := (559, .aload_n 2, 560)) rfl
theorem d_law_560 : decode code 560 = .ok (.aload_n 0, 1) := lw_d 368 (q := (560, .aload_n 0, 561)) rfl
theorem d_law_561 : decode code 561 = .ok (.iload_n 3, 1) := lw_d 369 (q := (561, .iload_n 3, 562)) rfl
theorem d_law_562 : decode code 562 = .ok (.iconst 1, 1) := lw_d 370 (q := (562, .iconst 1, 563)) rfl
theorem d_law_563 : decode code 563 = .ok (.iadd, 1) := lw_d 371 (q := (563, .iadd, 564)) rfl
theorem d_law_564 : decode code 564 = .ok (.iaload, 1) := lw_d 372 (q := (564, .iaload, 565)) rfl
theorem d_law_565 : decode code 565 = .ok (.invokevirtual 77, 3) := lw_d 373 (q := (565, .invokevirtual 77, 568)) rfl
theorem d_law_568 : decode code 568 = .ok (.if_icmp .eq 100, 3) := lw_d 374 (q := (568, .if_icmp .eq 100, 571)) rfl
theorem d_law_571 : decode code 571 = .ok (.iconst 0, 1) := lw_d 375 (q := (571, .iconst 0, 572)) rfl
theorem d_law_572 : decode code 572 = .ok (.ireturn, 1) := lw_d 376 (q := (572, .ireturn, 573)) rfl
theorem d_law_573 : decode code 573 = .ok (.aload_n 1, 1) := lw_d 377 (q := (573, .aload_n 1, 574)) rfl
theorem d_law_574 : decode code 574 = .ok (.aload_n 0, 1) := lw_d 378 (q := (574, .aload_n 0, 575)) rfl
theorem d_law_575 : decode code 575 = .ok (.iload_n 3, 1) := lw_d 379 (q := (575, .iload_n 3, 576)) rfl
theorem d_law_576 : decode code 576 = .ok (.iconst 1, 1) := lw_d 380 (q := (576, .iconst 1, 577)) rfl
theorem d_law_577 : decode code 577 = .ok (.iadd, 1) := lw_d 381 (q := (577, .iadd, 578)) rfl
theorem d_law_578 : decode code 578 = .ok (.iaload, 1) := lw_d 382 (q := (578, .iaload, 579)) rfl
theorem d_law_579 : decode code 579 = .ok (.invokevirtual 78, 3) := lw_d 383 (q := (579, .invokevirtual 78, 582)) rfl
theorem d_law_582 : decode code 582 = .ok (.aload_n 2, 1) := lw_d 384 (q := (582, .aload_n 2, 583)) rfl
theorem d_law_583 : decode code 583 = .ok (.aload_n 0, 1) := lw_d 385 (q := (583, .aload_n 0, 584)) rfl
theorem d_law_584 : decode code 584 = .ok (.iload_n 3, 1) := lw_d 386 (q := (584, .iload_n 3, 585)) rfl
theorem d_law_585 : decode code 585 = .ok (.iconst 1, 1) := lw_d 387 (q := (585, .iconst 1, 586)) rfl
theorem d_law_586 : decode code 586 = .ok (.iadd, 1) := lw_d 388 (q := (586, .iadd, 587)) rfl
theorem d_law_587 : decode code 587 = .ok (.iaload, 1) := lw_d 389 (q := (587, .iaload, 588)) rfl
theorem d_law_588 : decode code 588 = .ok (.invokevirtual 81, 3) := lw_d 390 (q := (588, .invokevirtual 81, 591)) rfl
theorem d_law_591 : decode code 591 = .ok (.if_icmp .eq 77, 3) := lw_d 391 (q := (591, .if_icmp .eq 77, 594)) rfl
theorem d_law_594 : decode code 594 = .ok (.iconst 0, 1) := lw_d 392 (q := (594, .iconst 0, 595)) rfl
theorem d_law_595 : decode code 595 = .ok (.ireturn, 1) := lw_d 393 (q := (595, .ireturn, 596)) rfl
theorem d_law_596 : decode code 596 = .ok (.aload_n 1, 1) := lw_d 394 (q := (596, .aload_n 1, 597)) rfl
theorem d_law_597 : decode code 597 = .ok (.invokevirtual 82, 3) := lw_d 395 (q := (597, .invokevirtual 82, 600)) rfl
theorem d_law_600 : decode code 600 = .ok (.aload_n 2, 1) := lw_d 396 (q := (600, .aload_n 2, 601)) rfl
theorem d_law_601 : decode code 601 = .ok (.invokevirtual 85, 3) := lw_d 397 (q := (601, .invokevirtual 85, 604)) rfl
theorem d_law_604 : decode code 604 = .ok (.if_icmp .eq 64, 3) := lw_d 398 (q := (604, .if_icmp .eq 64, 607)) rfl
theorem d_law_607 : decode code 607 = .ok (.iconst 0, 1) := lw_d 399 (q := (607, .iconst 0, 608)) rfl
theorem d_law_608 : decode code 608 = .ok (.ireturn, 1) := lw_d 400 (q := (608, .ireturn, 609)) rfl
theorem d_law_609 : decode code 609 = .ok (.aload_n 1, 1) := lw_d 401 (q := (609, .aload_n 1, 610)) rfl
theorem d_law_610 : decode code 610 = .ok (.aload_n 0, 1) := lw_d 402 (q := (610, .aload_n 0, 611)) rfl
theorem d_law_611 : decode code 611 = .ok (.iload_n 3, 1) := lw_d 403 (q := (611, .iload_n 3, 612)) rfl
theorem d_law_612 : decode code 612 = .ok (.iconst 1, 1) := lw_d 404 (q := (612, .iconst 1, 613)) rfl
theorem d_law_613 : decode code 613 = .ok (.iadd, 1) := lw_d 405 (q := (613, .iadd, 614)) rfl
theorem d_law_614 : decode code 614 = .ok (.iaload, 1) := lw_d 406 (q := (614, .iaload, 615)) rfl
theorem d_law_615 : decode code 615 = .ok (.invokevirtual 86, 3) := lw_d 407 (q := (615, .invokevirtual 86, 618)) rfl
theorem d_law_618 : decode code 618 = .ok (.aload_n 2, 1) := lw_d 408 (q := (618, .aload_n 2, 619)) rfl
theorem d_law_619 : decode code 619 = .ok (.aload_n 0, 1) := lw_d 409 (q := (619, .aload_n 0, 620)) rfl
theorem d_law_620 : decode code 620 = .ok (.iload_n 3, 1) := lw_d 410 (q := (620, .iload_n 3, 621)) rfl
theorem d_law_621 : decode code 621 = .ok (.iconst 1, 1) := lw_d 411 (q := (621, .iconst 1, 622)) rfl
theorem d_law_622 : decode code 622 = .ok (.iadd, 1) := lw_d 412 (q := (622, .iadd, 623)) rfl
theorem d_law_623 : decode code 623 = .ok (.iaload, 1) := lw_d 413 (q := (623, .iaload, 624)) rfl
theorem d_law_624 : decode code 624 = .ok (.invokevirtual 89, 3) := lw_d 414 (q := (624, .invokevirtual 89, 627)) rfl
theorem d_law_627 : decode code 627 = .ok (.if_icmp .eq 41, 3) := lw_d 415 (q := (627, .if_icmp .eq 41, 630)) rfl
theorem d_law_630 : decode code 630 = .ok (.iconst 0, 1) := lw_d 416 (q := (630, .iconst 0, 631)) rfl
theorem d_law_631 : decode code 631 = .ok (.ireturn, 1) := lw_d 417 (q := (631, .ireturn, 632)) rfl
theorem d_law_632 : decode code 632 = .ok (.aload_n 1, 1) := lw_d 418 (q := (632, .aload_n 1, 633)) rfl
theorem d_law_633 : decode code 633 = .ok (.invokevirtual 90, 3) := lw_d 419 (q := (633, .invokevirtual 90, 636)) rfl
theorem d_law_636 : decode code 636 = .ok (.aload_n 2, 1) := lw_d 420 (q := (636, .aload_n 2, 637)) rfl
theorem d_law_637 : decode code 637 = .ok (.invokevirtual 93, 3) := lw_d 421 (q := (637, .invokevirtual 93, 640)) rfl
theorem d_law_640 : decode code 640 = .ok (.if_icmp .eq 28, 3) := lw_d 422 (q := (640, .if_icmp .eq 28, 643)) rfl
theorem d_law_643 : decode code 643 = .ok (.iconst 0, 1) := lw_d 423 (q := (643, .iconst 0, 644)) rfl
theorem d_law_644 : decode code 644 = .ok (.ireturn, 1) := lw_d 424 (q := (644, .ireturn, 645)) rfl
theorem d_law_645 : decode code 645 = .ok (.aload_n 1, 1) := lw_d 425 (q := (645, .aload_n 1, 646)) rfl
theorem d_law_646 : decode code 646 = .ok (.aload_n 0, 1) := lw_d 426 (q := (646, .aload_n 0, 647)) rfl
theorem d_law_647 : decode code 647 = .ok (.iload_n 3, 1) := lw_d 427 (q := (647, .iload_n 3, 648)) rfl
theorem d_law_648 : decode code 648 = .ok (.iconst 1, 1) := lw_d 428 (q := (648, .iconst 1, 649)) rfl
theorem d_law_649 : decode code 649 = .ok (.iadd, 1) := lw_d 429 (q := (649, .iadd, 650)) rfl
theorem d_law_650 : decode code 650 = .ok (.iaload, 1) := lw_d 430 (q := (650, .iaload, 651)) rfl
theorem d_law_651 : decode code 651 = .ok (.invokevirtual 94, 3) := lw_d 431 (q := (651, .invokevirtual 94, 654)) rfl
theorem d_law_654 : decode code 654 = .ok (.aload_n 2, 1) := lw_d 432 (q := (654, .aload_n 2, 655)) rfl
theorem d_law_655 : decode code 655 = .ok (.aload_n 0, 1) := lw_d 433 (q := (655, .aload_n 0, 656)) rfl
theorem d_law_656 : decode code 656 = .ok (.iload_n 3, 1) := lw_d 434 (q := (656, .iload_n 3, 657)) rfl
theorem d_law_657 : decode code 657 = .ok (.iconst 1, 1) := lw_d 435 (q := (657, .iconst 1, 658)) rfl
theorem d_law_658 : decode code 658 = .ok (.iadd, 1) := lw_d 436 (q := (658, .iadd, 659)) rfl
theorem d_law_659 : decode code 659 = .ok (.iaload, 1) := lw_d 437 (q := (659, .iaload, 660)) rfl
theorem d_law_660 : decode code 660 = .ok (.invokevirtual 97, 3) := lw_d 438 (q := (660, .invokevirtual 97, 663)) rfl
theorem d_law_663 : decode code 663 = .ok (.if_icmp .eq 5, 3) := lw_d 439 (q := (663, .if_icmp .eq 5, 666)) rfl
theorem d_law_666 : decode code 666 = .ok (.iconst 0, 1) := lw_d 440 (q := (666, .iconst 0, 667)) rfl
theorem d_law_667 : decode code 667 = .ok (.ireturn, 1) := lw_d 441 (q := (667, .ireturn, 668)) rfl
theorem d_law_668 : decode code 668 = .ok (.iinc 3 5, 3) := lw_d 442 (q := (668, .iinc 3 5, 671)) rfl
theorem d_law_671 : decode code 671 = .ok (.goto (-653), 3) := lw_d 443 (q := (671, .goto (-653), 674)) rfl
theorem d_law_674 : decode code 674 = .ok (.iconst 1, 1) := lw_d 444 (q := (674, .iconst 1, 675)) rfl
theorem d_law_675 : decode code 675 = .ok (.ireturn, 1) := lw_d 445 (q := (675, .ireturn, 676)) rfl
