/-- SureSumsModel.isEndless(D)Z -/
def am_q193_0 : List (Nat × am_Q) := [(0, .dload_n 0, 1, []),
  (1, .ldc2_w 462, 3, [1, 9218868437227405311, 1660]),
  (4, .dcmp .l, 1, []),
  (5, .ifCond .gt 11, 3, [16]),
  (8, .dload_n 0, 1, []),
  (9, .ldc2_w 464, 3, [1, 18442240474082181119, 1661]),
  (12, .dcmp .g, 1, []),
  (13, .ifCond .ge 7, 3, [20]),
  (16, .iconst 1, 1, []),
  (17, .goto 4, 3, [21]),
  (20, .iconst 0, 1, []),
  (21, .ireturn, 1, [])]
def am_q193 : List (Nat × am_Q) := am_q193_0
set_option maxRecDepth 100000 in
theorem am_c193_0 : am_chk am_Nm "SureSumsModel" prog_10_method_80_code am_q193_0 = true := by decide +kernel
theorem am_c193 : am_chk am_Nm "SureSumsModel" prog_10_method_80_code am_q193 = true := by
  simp only [am_q193, am_chk, List.all_append, Bool.and_eq_true]
  exact am_c193_0
/-- SureSumsModel.isNone(IDD)Z -/
def am_q194_0 : List (Nat × am_Q) := [(0, .dload_n 1, 1, []),
  (1, .invokestatic 466, 3, [193, 1, 0, 0, 0, 1657, 1658]),
  (4, .ifCond .eq 14, 3, [18]),
  (7, .dload_n 3, 1, []),
  (8, .invokestatic 466, 3, [193, 1, 0, 0, 0, 1657, 1658]),
  (11, .ifCond .eq 7, 3, [18]),
  (14, .iconst 1, 1, []),
  (15, .goto 4, 3, [19]),
  (18, .iconst 0, 1, []),
  (19, .istore 5, 2, []),
  (21, .iload_n 0, 1, []),
  (22, .tableswitch 157 6 9 #[30, 66, 102, 134], 30, [179, 52, 88, 124, 156]),
  (52, .iload 5, 2, []),
  (54, .ifCond .eq 32, 3, [86]),
  (57, .dload_n 1, 1, []),
  (58, .dconst 0, 1, []),
  (59, .dcmp .l, 1, []),
  (60, .ifCond .le 7, 3, [67]),
  (63, .iconst 1, 1, []),
  (64, .goto 4, 3, [68]),
  (67, .iconst 0, 1, []),
  (68, .dload_n 3, 1, []),
  (69, .dconst 0, 1, []),
  (70, .dcmp .l, 1, []),
  (71, .ifCond .le 7, 3, [78]),
  (74, .iconst 1, 1, []),
  (75, .goto 4, 3, [79]),
  (78, .iconst 0, 1, []),
  (79, .if_icmp .eq 7, 3, [86]),
  (82, .iconst 1, 1, []),
  (83, .goto 4, 3, [87]),
  (86, .iconst 0, 1, []),
  (87, .ireturn, 1, []),
  (88, .iload 5, 2, []),
  (90, .ifCond .eq 32, 3, [122]),
  (93, .dload_n 1, 1, []),
  (94, .dconst 0, 1, []),
  (95, .dcmp .l, 1, []),
  (96, .ifCond .le 7, 3, [103]),
  (99, .iconst 1, 1, []),
  (100, .goto 4, 3, [104]),
  (103, .iconst 0, 1, []),
  (104, .dload_n 3, 1, []),
  (105, .dconst 0, 1, []),
  (106, .dcmp .l, 1, []),
  (107, .ifCond .le 7, 3, [114]),
  (110, .iconst 1, 1, []),
  (111, .goto 4, 3, [115]),
  (114, .iconst 0, 1, []),
  (115, .if_icmp .ne 7, 3, [122]),
  (118, .iconst 1, 1, []),
  (119, .goto 4, 3, [123]),
  (122, .iconst 0, 1, []),
  (123, .ireturn, 1, []),
  (124, .dload_n 1, 1, []),
  (125, .dconst 0, 1, []),
  (126, .dcmp .l, 1, []),
  (127, .ifCond .ne 10, 3, [137]),
  (130, .dload_n 3, 1, []),
  (131, .invokestatic 466, 3, [193, 1, 0, 0, 0, 1657, 1658])]
def am_q194_1 : List (Nat × am_Q) := [(134, .ifCond .ne 16, 3, [150]),
  (137, .dload_n 3, 1, []),
  (138, .dconst 0, 1, []),
  (139, .dcmp .l, 1, []),
  (140, .ifCond .ne 14, 3, [154]),
  (143, .dload_n 1, 1, []),
  (144, .invokestatic 466, 3, [193, 1, 0, 0, 0, 1657, 1658]),
  (147, .ifCond .eq 7, 3, [154]),
  (150, .iconst 1, 1, []),
  (151, .goto 4, 3, [155]),
  (154, .iconst 0, 1, []),
  (155, .ireturn, 1, []),
  (156, .iload 5, 2, []),
  (158, .ifCond .ne 15, 3, [173]),
  (161, .dload_n 1, 1, []),
  (162, .dconst 0, 1, []),
  (163, .dcmp .l, 1, []),
  (164, .ifCond .ne 13, 3, [177]),
  (167, .dload_n 3, 1, []),
  (168, .dconst 0, 1, []),
  (169, .dcmp .l, 1, []),
  (170, .ifCond .ne 7, 3, [177]),
  (173, .iconst 1, 1, []),
  (174, .goto 4, 3, [178]),
  (177, .iconst 0, 1, []),
  (178, .ireturn, 1, []),
  (179, .iconst 0, 1, []),
  (180, .ireturn, 1, [])]
def am_q194 : List (Nat × am_Q) := am_q194_0 ++ am_q194_1
set_option maxRecDepth 100000 in
theorem am_c194_0 : am_chk am_Nm "SureSumsModel" prog_10_method_81_code am_q194_0 = true := by decide +kernel
set_option maxRecDepth 100000 in
theorem am_c194_1 : am_chk am_Nm "SureSumsModel" prog_10_method_81_code am_q194_1 = true := by decide +kernel
theorem am_c194 : am_chk am_Nm "SureSumsModel" prog_10_method_81_code am_q194 = true := by
  simp only [am_q194, am_chk, List.all_append, Bool.and_eq_true]
  exact ⟨am_c194_0, am_c194_1⟩
/-- SureSumsModel.ofTwo(IDD)D -/
def am_q195_0 : List (Nat × am_Q) := [(0, .iload_n 0, 1, []),
  (1, .tableswitch 81 6 10 #[35, 39, 43, 47, 51], 35, [82, 36, 40, 44, 48, 52]),
  (36, .dload_n 1, 1, []),
  (37, .dload_n 3, 1, []),
  (38, .dadd, 1, []),
  (39, .dreturn, 1, []),
  (40, .dload_n 1, 1, []),
  (41, .dload_n 3, 1, []),
  (42, .dsub, 1, []),
  (43, .dreturn, 1, []),
  (44, .dload_n 1, 1, []),
  (45, .dload_n 3, 1, []),
  (46, .dmul, 1, []),
  (47, .dreturn, 1, []),
  (48, .dload_n 1, 1, []),
  (49, .dload_n 3, 1, []),
  (50, .ddiv, 1, []),
  (51, .dreturn, 1, []),
  (52, .dload_n 1, 1, []),
  (53, .dconst 0, 1, []),
  (54, .dcmp .l, 1, []),
  (55, .ifCond .ne 15, 3, [70]),
  (58, .dload_n 3, 1, []),
  (59, .dconst 0, 1, []),
  (60, .dcmp .l, 1, []),
  (61, .ifCond .ne 9, 3, [70]),
  (64, .dload_n 1, 1, []),
  (65, .dload_n 3, 1, []),
  (66, .dadd, 1, []),
  (67, .goto 14, 3, [81]),
  (70, .dload_n 1, 1, []),
  (71, .dload_n 3, 1, []),
  (72, .dcmp .l, 1, []),
  (73, .ifCond .le 7, 3, [80]),
  (76, .dload_n 1, 1, []),
  (77, .goto 4, 3, [81]),
  (80, .dload_n 3, 1, []),
  (81, .dreturn, 1, []),
  (82, .dload_n 1, 1, []),
  (83, .dconst 0, 1, []),
  (84, .dcmp .l, 1, []),
  (85, .ifCond .ne 17, 3, [102]),
  (88, .dload_n 3, 1, []),
  (89, .dconst 0, 1, []),
  (90, .dcmp .l, 1, []),
  (91, .ifCond .ne 11, 3, [102]),
  (94, .dload_n 1, 1, []),
  (95, .dneg, 1, []),
  (96, .dload_n 3, 1, []),
  (97, .dsub, 1, []),
  (98, .dneg, 1, []),
  (99, .goto 14, 3, [113]),
  (102, .dload_n 1, 1, []),
  (103, .dload_n 3, 1, []),
  (104, .dcmp .g, 1, []),
  (105, .ifCond .ge 7, 3, [112]),
  (108, .dload_n 1, 1, []),
  (109, .goto 4, 3, [113]),
  (112, .dload_n 3, 1, []),
  (113, .dreturn, 1, [])]
def am_q195 : List (Nat × am_Q) := am_q195_0
set_option maxRecDepth 100000 in
theorem am_c195_0 : am_chk am_Nm "SureSumsModel" prog_10_method_82_code am_q195_0 = true := by decide +kernel
theorem am_c195 : am_chk am_Nm "SureSumsModel" prog_10_method_82_code am_q195 = true := by
  simp only [am_q195, am_chk, List.all_append, Bool.and_eq_true]
  exact am_c195_0
/-- SureSumsModel.rootOfDouble(D)D -/
def am_q196_0 : List (Nat × am_Q) := [(0, .dload_n 0, 1, []),
  (1, .dconst 0, 1, []),
  (2, .dcmp .l, 1, []),
  (3, .ifCond .eq 10, 3, [13]),
  (6, .dload_n 0, 1, []),
  (7, .invokestatic 466, 3, [193, 1, 0, 0, 0, 1657, 1658]),
  (10, .ifCond .eq 5, 3, [15]),
  (13, .dload_n 0, 1, []),
  (14, .dreturn, 1, []),
  (15, .dload_n 0, 1, []),
  (16, .dstore_n 2, 1, []),
  (17, .iconst 0, 1, []),
  (18, .istore 4, 2, []),
  (20, .dload_n 2, 1, []),
  (21, .ldc2_w 470, 3, [1, 4616189618054758400, 1662]),
  (24, .dcmp .l, 1, []),
  (25, .ifCond .lt 15, 3, [40]),
  (28, .dload_n 2, 1, []),
  (29, .ldc2_w 472, 3, [1, 4598175219545276416, 1663]),
  (32, .dmul, 1, []),
  (33, .dstore_n 2, 1, []),
  (34, .iinc 4 1, 3, []),
  (37, .goto (-17), 3, [20]),
  (40, .dload_n 2, 1, []),
  (41, .dconst 1, 1, []),
  (42, .dcmp .g, 1, []),
  (43, .ifCond .ge 15, 3, [58]),
  (46, .dload_n 2, 1, []),
  (47, .ldc2_w 470, 3, [1, 4616189618054758400, 1662]),
  (50, .dmul, 1, []),
  (51, .dstore_n 2, 1, []),
  (52, .iinc 4 (-1), 3, []),
  (55, .goto (-15), 3, [40]),
  (58, .dload_n 2, 1, []),
  (59, .ldc2_w 474, 3, [1, 4841369599423283200, 1664]),
  (62, .dmul, 1, []),
  (63, .d2l, 1, []),
  (64, .lstore 5, 2, []),
  (66, .lconst 0, 1, []),
  (67, .lstore 7, 2, []),
  (69, .lconst 0, 1, []),
  (70, .lstore 9, 2, []),
  (72, .bipush 53, 2, []),
  (74, .istore 11, 2, []),
  (76, .iload 11, 2, []),
  (78, .ifCond .lt 82, 3, [160]),
  (81, .iconst 2, 1, []),
  (82, .iload 11, 2, []),
  (84, .imul, 1, []),
  (85, .bipush 54, 2, []),
  (87, .isub, 1, []),
  (88, .istore 12, 2, []),
  (90, .iload 12, 2, []),
  (92, .ifCond .ge 7, 3, [99]),
  (95, .lconst 0, 1, []),
  (96, .goto 12, 3, [108]),
  (99, .lload 5, 2, []),
  (101, .iload 12, 2, []),
  (103, .lshr, 1, []),
  (104, .ldc2_w 476, 3, [0, 3, 1665])]
def am_q196_1 : List (Nat × am_Q) := [(107, .land, 1, []),
  (108, .lstore 13, 2, []),
  (110, .lload 9, 2, []),
  (112, .iconst 2, 1, []),
  (113, .lshl, 1, []),
  (114, .lload 13, 2, []),
  (116, .lor, 1, []),
  (117, .lstore 9, 2, []),
  (119, .lload 7, 2, []),
  (121, .iconst 2, 1, []),
  (122, .lshl, 1, []),
  (123, .lconst 1, 1, []),
  (124, .lor, 1, []),
  (125, .lstore 15, 2, []),
  (127, .lload 7, 2, []),
  (129, .iconst 1, 1, []),
  (130, .lshl, 1, []),
  (131, .lstore 7, 2, []),
  (133, .lload 9, 2, []),
  (135, .lload 15, 2, []),
  (137, .lcmp, 1, []),
  (138, .ifCond .lt 16, 3, [154]),
  (141, .lload 9, 2, []),
  (143, .lload 15, 2, []),
  (145, .lsub, 1, []),
  (146, .lstore 9, 2, []),
  (148, .lload 7, 2, []),
  (150, .lconst 1, 1, []),
  (151, .ladd, 1, []),
  (152, .lstore 7, 2, []),
  (154, .iinc 11 (-1), 3, []),
  (157, .goto (-81), 3, [76]),
  (160, .lload 7, 2, []),
  (162, .iconst 1, 1, []),
  (163, .lshr, 1, []),
  (164, .lload 7, 2, []),
  (166, .lconst 1, 1, []),
  (167, .land, 1, []),
  (168, .ladd, 1, []),
  (169, .lstore 11, 2, []),
  (171, .lload 11, 2, []),
  (173, .l2d, 1, []),
  (174, .ldc2_w 478, 3, [1, 4372995238176751616, 1666]),
  (177, .dmul, 1, []),
  (178, .dstore 13, 2, []),
  (180, .iconst 0, 1, []),
  (181, .istore 15, 2, []),
  (183, .iload 15, 2, []),
  (185, .iload 4, 2, []),
  (187, .if_icmp .ge 17, 3, [204]),
  (190, .dload 13, 2, []),
  (192, .ldc2_w 480, 3, [1, 4611686018427387904, 1667]),
  (195, .dmul, 1, []),
  (196, .dstore 13, 2, []),
  (198, .iinc 15 1, 3, []),
  (201, .goto (-18), 3, [183]),
  (204, .iconst 0, 1, []),
  (205, .istore 15, 2, []),
  (207, .iload 15, 2, []),
  (209, .iload 4, 2, [])]
def am_q196_2 : List (Nat × am_Q) := [(211, .if_icmp .le 17, 3, [228]),
  (214, .dload 13, 2, []),
  (216, .ldc2_w 482, 3, [1, 4602678819172646912, 1668]),
  (219, .dmul, 1, []),
  (220, .dstore 13, 2, []),
  (222, .iinc 15 (-1), 3, []),
  (225, .goto (-18), 3, [207]),
  (228, .dload 13, 2, []),
  (230, .dreturn, 1, [])]
def am_q196 : List (Nat × am_Q) := am_q196_0 ++ am_q196_1 ++ am_q196_2
set_option maxRecDepth 100000 in
theorem am_c196_0 : am_chk am_Nm "SureSumsModel" prog_10_method_83_code am_q196_0 = true := by decide +kernel
set_option maxRecDepth 100000 in
theorem am_c196_1 : am_chk am_Nm "SureSumsModel" prog_10_method_83_code am_q196_1 = true := by decide +kernel
set_option maxRecDepth 100000 in
theorem am_c196_2 : am_chk am_Nm "SureSumsModel" prog_10_method_83_code am_q196_2 = true := by decide +kernel
theorem am_c196 : am_chk am_Nm "SureSumsModel" prog_10_method_83_code am_q196 = true := by
  simp only [am_q196, am_chk, List.all_append, Bool.and_eq_true]
  exact ⟨⟨am_c196_0, am_c196_1⟩, am_c196_2⟩
/-- SureSumsModel.fails(I)D -/
def am_q197_0 : List (Nat × am_Q) := [(0, .aload_n 0, 1, []),
  (1, .iload_n 1, 1, []),
  (2, .putfield 131, 3, [8, 2, 0, 1130]),
  (5, .dconst 0, 1, []),
  (6, .dreturn, 1, [])]
def am_q197 : List (Nat × am_Q) := am_q197_0
set_option maxRecDepth 100000 in
theorem am_c197_0 : am_chk am_Nm "SureSumsModel" prog_10_method_84_code am_q197_0 = true := by decide +kernel
theorem am_c197 : am_chk am_Nm "SureSumsModel" prog_10_method_84_code am_q197 = true := by
  simp only [am_q197, am_chk, List.all_append, Bool.and_eq_true]
  exact am_c197_0
/-- SureSumsModel.machine(I)D -/
def am_q198_0 : List (Nat × am_Q) := [(0, .aload_n 0, 1, []),
  (1, .iconst 0, 1, []),
  (2, .putfield 131, 3, [8, 2, 0, 1130]),
  (5, .iload_n 1, 1, []),
  (6, .invokestatic 284, 3, [146, 1, 0, 0, 0, 1458, 1459]),
  (9, .ifCond .ne 9, 3, [18]),
  (12, .aload_n 0, 1, []),
  (13, .iconst 1, 1, []),
  (14, .invokevirtual 484, 3, [197, 2, 1, 8, 0, 1630, 1632, 128]),
  (17, .dreturn, 1, []),
  (18, .aload_n 0, 1, []),
  (19, .iload_n 1, 1, []),
  (20, .invokevirtual 379, 3, [148, 2, 1, 8, 0, 1465, 1467, 104]),
  (23, .ifCond .ne 9, 3, [32]),
  (26, .aload_n 0, 1, []),
  (27, .iconst 2, 1, []),
  (28, .invokevirtual 484, 3, [197, 2, 1, 8, 0, 1630, 1632, 128]),
  (31, .dreturn, 1, []),
  (32, .aload_n 0, 1, []),
  (33, .invokevirtual 488, 3, [191, 1, 1, 8, 0, 1634, 1636, 129]),
  (36, .aload_n 0, 1, []),
  (37, .getfield 116, 3, [8, 62, 0, 1190]),
  (40, .iload_n 1, 1, []),
  (41, .baload, 1, []),
  (42, .ifCond .eq 7, 3, [49]),
  (45, .dconst 0, 1, []),
  (46, .goto 9, 3, [55]),
  (49, .aload_n 0, 1, []),
  (50, .getfield 112, 3, [8, 61, 0, 1189]),
  (53, .iload_n 1, 1, []),
  (54, .daload, 1, []),
  (55, .dreturn, 1, [])]
def am_q198 : List (Nat × am_Q) := am_q198_0
set_option maxRecDepth 100000 in
theorem am_c198_0 : am_chk am_Nm "SureSumsModel" prog_10_method_85_code am_q198_0 = true := by decide +kernel
theorem am_c198 : am_chk am_Nm "SureSumsModel" prog_10_method_85_code am_q198 = true := by
  simp only [am_q198, am_chk, List.all_append, Bool.and_eq_true]
  exact am_c198_0
/-- SureSumsModel.off(I)I -/
def am_q199_0 : List (Nat × am_Q) := [(0, .aload_n 0, 1, []),
  (1, .iconst 0, 1, []),
  (2, .putfield 131, 3, [8, 2, 0, 1130]),
  (5, .aload_n 0, 1, []),
  (6, .iload_n 1, 1, []),
  (7, .invokevirtual 379, 3, [148, 2, 1, 8, 0, 1465, 1467, 104]),
  (10, .ifCond .ne 5, 3, [15]),
  (13, .iconst (-1), 1, []),
  (14, .ireturn, 1, []),
  (15, .aload_n 0, 1, []),
  (16, .invokevirtual 488, 3, [191, 1, 1, 8, 0, 1634, 1636, 129]),
  (19, .aload_n 0, 1, []),
  (20, .iload_n 1, 1, []),
  (21, .bipush 20, 2, []),
  (23, .invokevirtual 386, 3, [170, 3, 1, 8, 0, 1473, 1475, 105]),
  (26, .aload_n 0, 1, []),
  (27, .getfield 116, 3, [8, 62, 0, 1190]),
  (30, .iload_n 1, 1, []),
  (31, .baload, 1, []),
  (32, .ifCond .ne 10, 3, [42]),
  (35, .aload_n 0, 1, []),
  (36, .getfield 298, 3, [8, 50, 0, 1178]),
  (39, .ifCond .ne 5, 3, [44]),
  (42, .iconst 2, 1, []),
  (43, .ireturn, 1, []),
  (44, .aload_n 0, 1, []),
  (45, .getfield 112, 3, [8, 61, 0, 1189]),
  (48, .iload_n 1, 1, []),
  (49, .daload, 1, []),
  (50, .ldc2_w 491, 3, [1, 4697254411347427328, 1679]),
  (53, .dmul, 1, []),
  (54, .dstore_n 2, 1, []),
  (55, .dload_n 2, 1, []),
  (56, .aload_n 0, 1, []),
  (57, .getfield 301, 3, [8, 51, 0, 1179]),
  (60, .l2d, 1, []),
  (61, .dcmp .g, 1, []),
  (62, .ifCond .ge 7, 3, [69]),
  (65, .iconst (-1), 1, []),
  (66, .goto 18, 3, [84]),
  (69, .dload_n 2, 1, []),
  (70, .aload_n 0, 1, []),
  (71, .getfield 305, 3, [8, 52, 0, 1180]),
  (74, .l2d, 1, []),
  (75, .dcmp .l, 1, []),
  (76, .ifCond .le 7, 3, [83]),
  (79, .iconst 1, 1, []),
  (80, .goto 4, 3, [84]),
  (83, .iconst 0, 1, []),
  (84, .ireturn, 1, [])]
def am_q199 : List (Nat × am_Q) := am_q199_0
set_option maxRecDepth 100000 in
theorem am_c199_0 : am_chk am_Nm "SureSumsModel" prog_10_method_86_code am_q199_0 = true := by decide +kernel
theorem am_c199 : am_chk am_Nm "SureSumsModel" prog_10_method_86_code am_q199 = true := by
  simp only [am_q199, am_chk, List.all_append, Bool.and_eq_true]
  exact am_c199_0
/-- SureSumsModel.count(I)I -/
def am_q200_0 : List (Nat × am_Q) := [(0, .aload_n 0, 1, []),
  (1, .iconst 0, 1, []),
  (2, .putfield 131, 3, [8, 2, 0, 1130]),
  (5, .iload_n 1, 1, []),
  (6, .tableswitch 50 0 3 #[30, 35, 40, 45], 30, [56, 36, 41, 46, 51]),
  (36, .aload_n 0, 1, []),
  (37, .getfield 266, 3, [8, 24, 0, 1152]),
  (40, .ireturn, 1, []),
  (41, .aload_n 0, 1, []),
  (42, .getfield 269, 3, [8, 25, 0, 1153]),
  (45, .ireturn, 1, []),
  (46, .aload_n 0, 1, []),
  (47, .getfield 275, 3, [8, 17, 0, 1145]),
  (50, .ireturn, 1, []),
  (51, .aload_n 0, 1, []),
  (52, .getfield 272, 3, [8, 21, 0, 1149]),
  (55, .ireturn, 1, []),
  (56, .iconst (-1), 1, []),
  (57, .ireturn, 1, [])]
def am_q200 : List (Nat × am_Q) := am_q200_0
set_option maxRecDepth 100000 in
theorem am_c200_0 : am_chk am_Nm "SureSumsModel" prog_10_method_87_code am_q200_0 = true := by decide +kernel
theorem am_c200 : am_chk am_Nm "SureSumsModel" prog_10_method_87_code am_q200 = true := by
  simp only [am_q200, am_chk, List.all_append, Bool.and_eq_true]
  exact am_c200_0
/-- java/lang/Math.max(II)I -/
def am_q201_0 : List (Nat × am_Q) := [(0, .iload_n 0, 1, []),
  (1, .iload_n 1, 1, []),
  (2, .if_icmp .lt 7, 3, [9]),
  (5, .iload_n 0, 1, []),
  (6, .goto 4, 3, [10]),
  (9, .iload_n 1, 1, []),
  (10, .ireturn, 1, [])]
def am_q201 : List (Nat × am_Q) := am_q201_0
set_option maxRecDepth 100000 in
theorem am_c201_0 : am_chk am_Nm "java/lang/Math" prog_16_method_65_code am_q201_0 = true := by decide +kernel
theorem am_c201 : am_chk am_Nm "java/lang/Math" prog_16_method_65_code am_q201 = true := by
  simp only [am_q201, am_chk, List.all_append, Bool.and_eq_true]
  exact am_c201_0
/-- java/lang/Math.min(II)I -/
def am_q202_0 : List (Nat × am_Q) := [(0, .iload_n 0, 1, []),
  (1, .iload_n 1, 1, []),
  (2, .if_icmp .gt 7, 3, [9]),
  (5, .iload_n 0, 1, []),
  (6, .goto 4, 3, [10]),
  (9, .iload_n 1, 1, []),
  (10, .ireturn, 1, [])]
def am_q202 : List (Nat × am_Q) := am_q202_0
set_option maxRecDepth 100000 in
theorem am_c202_0 : am_chk am_Nm "java/lang/Math" prog_16_method_69_code am_q202_0 = true := by decide +kernel
theorem am_c202 : am_chk am_Nm "java/lang/Math" prog_16_method_69_code am_q202 = true := by
  simp only [am_q202, am_chk, List.all_append, Bool.and_eq_true]
  exact am_c202_0
/-- java/lang/Math.max(JJ)J -/
def am_q203_0 : List (Nat × am_Q) := [(0, .lload_n 0, 1, []),
  (1, .lload_n 2, 1, []),
  (2, .lcmp, 1, []),
  (3, .ifCond .lt 7, 3, [10]),
  (6, .lload_n 0, 1, []),
  (7, .goto 4, 3, [11]),
  (10, .lload_n 2, 1, []),
  (11, .lreturn, 1, [])]
def am_q203 : List (Nat × am_Q) := am_q203_0
set_option maxRecDepth 100000 in
theorem am_c203_0 : am_chk am_Nm "java/lang/Math" prog_16_method_66_code am_q203_0 = true := by decide +kernel
theorem am_c203 : am_chk am_Nm "java/lang/Math" prog_16_method_66_code am_q203 = true := by
  simp only [am_q203, am_chk, List.all_append, Bool.and_eq_true]
  exact am_c203_0
/-- java/lang/Math.min(JJ)J -/
def am_q204_0 : List (Nat × am_Q) := [(0, .lload_n 0, 1, []),
  (1, .lload_n 2, 1, []),
  (2, .lcmp, 1, []),
  (3, .ifCond .gt 7, 3, [10]),
  (6, .lload_n 0, 1, []),
  (7, .goto 4, 3, [11]),
  (10, .lload_n 2, 1, []),
  (11, .lreturn, 1, [])]
def am_q204 : List (Nat × am_Q) := am_q204_0
set_option maxRecDepth 100000 in
theorem am_c204_0 : am_chk am_Nm "java/lang/Math" prog_16_method_70_code am_q204_0 = true := by decide +kernel
theorem am_c204 : am_chk am_Nm "java/lang/Math" prog_16_method_70_code am_q204 = true := by
  simp only [am_q204, am_chk, List.all_append, Bool.and_eq_true]
  exact am_c204_0
/-- java/lang/Math.abs(J)J -/
def am_q205_0 : List (Nat × am_Q) := [(0, .lload_n 0, 1, []),
  (1, .lconst 0, 1, []),
  (2, .lcmp, 1, []),
  (3, .ifCond .ge 8, 3, [11]),
  (6, .lload_n 0, 1, []),
  (7, .lneg, 1, []),
  (8, .goto 4, 3, [12]),
  (11, .lload_n 0, 1, []),
  (12, .lreturn, 1, [])]
def am_q205 : List (Nat × am_Q) := am_q205_0
set_option maxRecDepth 100000 in
theorem am_c205_0 : am_chk am_Nm "java/lang/Math" prog_16_method_61_code am_q205_0 = true := by decide +kernel
theorem am_c205 : am_chk am_Nm "java/lang/Math" prog_16_method_61_code am_q205 = true := by
  simp only [am_q205, am_chk, List.all_append, Bool.and_eq_true]
  exact am_c205_0
/-- java/lang/Math.floorDiv(JJ)J -/
def am_q206_0 : List (Nat × am_Q) := [(0, .lload_n 0, 1, []),
  (1, .lload_n 2, 1, []),
  (2, .ldiv, 1, []),
  (3, .lstore 4, 2, []),
  (5, .lload_n 0, 1, []),
  (6, .lload_n 2, 1, []),
  (7, .lxor, 1, []),
  (8, .lconst 0, 1, []),
  (9, .lcmp, 1, []),
  (10, .ifCond .ge 17, 3, [27]),
  (13, .lload 4, 2, []),
  (15, .lload_n 2, 1, []),
  (16, .lmul, 1, []),
  (17, .lload_n 0, 1, []),
  (18, .lcmp, 1, []),
  (19, .ifCond .eq 8, 3, [27]),
  (22, .lload 4, 2, []),
  (24, .lconst 1, 1, []),
  (25, .lsub, 1, []),
  (26, .lreturn, 1, []),
  (27, .lload 4, 2, []),
  (29, .lreturn, 1, [])]
def am_q206 : List (Nat × am_Q) := am_q206_0
set_option maxRecDepth 100000 in
theorem am_c206_0 : am_chk am_Nm "java/lang/Math" prog_16_method_49_code am_q206_0 = true := by decide +kernel
theorem am_c206 : am_chk am_Nm "java/lang/Math" prog_16_method_49_code am_q206 = true := by
  simp only [am_q206, am_chk, List.all_append, Bool.and_eq_true]
  exact am_c206_0
/-- java/util/Arrays.fill([II)V -/
def am_q207_0 : List (Nat × am_Q) := [(0, .iconst 0, 1, []),
  (1, .istore_n 2, 1, []),
  (2, .aload_n 0, 1, []),
  (3, .arraylength, 1, []),
  (4, .istore_n 3, 1, []),
  (5, .iload_n 2, 1, []),
  (6, .iload_n 3, 1, []),
  (7, .if_icmp .ge 13, 3, [20]),
  (10, .aload_n 0, 1, []),
  (11, .iload_n 2, 1, []),
  (12, .iload_n 1, 1, []),
  (13, .iastore, 1, []),
  (14, .iinc 2 1, 3, []),
  (17, .goto (-12), 3, [5]),
  (20, .return_, 1, [])]
def am_q207 : List (Nat × am_Q) := am_q207_0
set_option maxRecDepth 100000 in
theorem am_c207_0 : am_chk am_Nm "java/util/Arrays" prog_24_method_103_code am_q207_0 = true := by decide +kernel
theorem am_c207 : am_chk am_Nm "java/util/Arrays" prog_24_method_103_code am_q207 = true := by
  simp only [am_q207, am_chk, List.all_append, Bool.and_eq_true]
  exact am_c207_0
/-- java/util/Arrays.fill([JJ)V -/
def am_q208_0 : List (Nat × am_Q) := [(0, .iconst 0, 1, []),
  (1, .istore_n 3, 1, []),
  (2, .aload_n 0, 1, []),
  (3, .arraylength, 1, []),
  (4, .istore 4, 2, []),
  (6, .iload_n 3, 1, []),
  (7, .iload 4, 2, []),
  (9, .if_icmp .ge 13, 3, [22]),
  (12, .aload_n 0, 1, []),
  (13, .iload_n 3, 1, []),
  (14, .lload_n 1, 1, []),
  (15, .lastore, 1, []),
  (16, .iinc 3 1, 3, []),
  (19, .goto (-13), 3, [6]),
  (22, .return_, 1, [])]
def am_q208 : List (Nat × am_Q) := am_q208_0
set_option maxRecDepth 100000 in
theorem am_c208_0 : am_chk am_Nm "java/util/Arrays" prog_24_method_101_code am_q208_0 = true := by decide +kernel
theorem am_c208 : am_chk am_Nm "java/util/Arrays" prog_24_method_101_code am_q208 = true := by
  simp only [am_q208, am_chk, List.all_append, Bool.and_eq_true]
  exact am_c208_0
