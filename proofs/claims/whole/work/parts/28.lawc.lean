def lw_q_0 : List (Nat × am_Q) := [(3, .dup, 1, []),
  (7, .astore_n 1, 1, []),
  (11, .dup, 1, []),
  (15, .astore_n 2, 1, []),
  (16, .iconst 1, 1, []),
  (19, .astore_n 3, 1, []),
  (20, .iconst 0, 1, []),
  (21, .istore 4, 2, []),
  (23, .iload 4, 2, []),
  (25, .aload_n 0, 1, []),
  (26, .arraylength, 1, []),
  (27, .bipush 6, 2, []),
  (29, .isub, 1, []),
  (30, .if_icmp .gt 812, 3, [842]),
  (33, .aload_n 0, 1, []),
  (34, .iload 4, 2, []),
  (36, .iaload, 1, []),
  (37, .bipush 15, 2, []),
  (39, .iand, 1, []),
  (40, .tableswitch 796 0 15 #[80, 153, 178, 203, 228, 278, 352, 402, 427, 465, 502, 551, 600, 673, 746, 771], 80, [836, 120, 193, 218, 243, 268, 318, 392, 442, 467, 505, 542, 591, 640, 713, 786, 811]),
  (120, .aload_n 1, 1, []),
  (121, .aload_n 0, 1, []),
  (122, .iload 4, 2, []),
  (124, .iconst 1, 1, []),
  (125, .iadd, 1, []),
  (126, .iaload, 1, []),
  (127, .aload_n 0, 1, []),
  (128, .iload 4, 2, []),
  (130, .iconst 2, 1, []),
  (131, .iadd, 1, []),
  (132, .iaload, 1, []),
  (133, .aload_n 0, 1, []),
  (134, .iload 4, 2, []),
  (136, .iconst 3, 1, []),
  (137, .iadd, 1, []),
  (138, .iaload, 1, []),
  (139, .aload_n 0, 1, []),
  (140, .iload 4, 2, []),
  (142, .iconst 4, 1, []),
  (143, .iadd, 1, []),
  (144, .iaload, 1, []),
  (145, .aload_n 0, 1, []),
  (146, .iload 4, 2, []),
  (148, .iconst 5, 1, []),
  (149, .iadd, 1, []),
  (150, .iaload, 1, []),
  (151, .invokevirtual 21, 3, [92, 6, 1, 7, 0, 472, 473, 474]),
  (154, .aload_n 2, 1, []),
  (155, .aload_n 0, 1, []),
  (156, .iload 4, 2, []),
  (158, .iconst 1, 1, []),
  (159, .iadd, 1, []),
  (160, .iaload, 1, []),
  (161, .aload_n 0, 1, []),
  (162, .iload 4, 2, []),
  (164, .iconst 2, 1, []),
  (165, .iadd, 1, []),
  (166, .iaload, 1, []),
  (167, .aload_n 0, 1, []),
  (168, .iload 4, 2, [])]
def lw_q_1 : List (Nat × am_Q) := [(170, .iconst 3, 1, []),
  (171, .iadd, 1, []),
  (172, .iaload, 1, []),
  (173, .aload_n 0, 1, []),
  (174, .iload 4, 2, []),
  (176, .iconst 4, 1, []),
  (177, .iadd, 1, []),
  (178, .iaload, 1, []),
  (179, .aload_n 0, 1, []),
  (180, .iload 4, 2, []),
  (182, .iconst 5, 1, []),
  (183, .iadd, 1, []),
  (184, .iaload, 1, []),
  (185, .invokevirtual 25, 3, [116, 6, 1, 8, 0, 1340, 1341, 1342]),
  (188, .if_icmp .eq 648, 3, [836]),
  (191, .iconst 0, 1, []),
  (192, .ireturn, 1, []),
  (193, .aload_n 1, 1, []),
  (194, .aload_n 0, 1, []),
  (195, .iload 4, 2, []),
  (197, .iconst 1, 1, []),
  (198, .iadd, 1, []),
  (199, .iaload, 1, []),
  (200, .invokevirtual 26, 3, [94, 2, 1, 7, 0, 480, 481, 482]),
  (203, .aload_n 2, 1, []),
  (204, .aload_n 0, 1, []),
  (205, .iload 4, 2, []),
  (207, .iconst 1, 1, []),
  (208, .iadd, 1, []),
  (209, .iaload, 1, []),
  (210, .invokevirtual 30, 3, [144, 2, 1, 8, 0, 1344, 1345, 1346]),
  (213, .if_icmp .eq 623, 3, [836]),
  (216, .iconst 0, 1, []),
  (217, .ireturn, 1, []),
  (218, .aload_n 1, 1, []),
  (219, .aload_n 0, 1, []),
  (220, .iload 4, 2, []),
  (222, .iconst 1, 1, []),
  (223, .iadd, 1, []),
  (224, .iaload, 1, []),
  (225, .invokevirtual 31, 3, [95, 2, 1, 7, 0, 748, 749, 750]),
  (228, .aload_n 2, 1, []),
  (229, .aload_n 0, 1, []),
  (230, .iload 4, 2, []),
  (232, .iconst 1, 1, []),
  (233, .iadd, 1, []),
  (234, .iaload, 1, []),
  (235, .invokevirtual 34, 3, [145, 2, 1, 8, 0, 1450, 1451, 1452]),
  (238, .if_icmp .eq 598, 3, [836]),
  (241, .iconst 0, 1, []),
  (242, .ireturn, 1, []),
  (243, .aload_n 1, 1, []),
  (244, .aload_n 0, 1, []),
  (245, .iload 4, 2, []),
  (247, .iconst 1, 1, []),
  (248, .iadd, 1, []),
  (249, .iaload, 1, []),
  (250, .invokevirtual 35, 3, [96, 2, 1, 7, 0, 752, 753, 754]),
  (253, .aload_n 2, 1, []),
  (254, .aload_n 0, 1, [])]
def lw_q_2 : List (Nat × am_Q) := [(255, .iload 4, 2, []),
  (257, .iconst 1, 1, []),
  (258, .iadd, 1, []),
  (259, .iaload, 1, []),
  (260, .invokevirtual 38, 3, [147, 2, 1, 8, 0, 1454, 1455, 1456]),
  (263, .if_icmp .eq 573, 3, [836]),
  (266, .iconst 0, 1, []),
  (267, .ireturn, 1, []),
  (268, .aload_n 1, 1, []),
  (269, .aload_n 0, 1, []),
  (270, .iload 4, 2, []),
  (272, .iconst 1, 1, []),
  (273, .iadd, 1, []),
  (274, .iaload, 1, []),
  (275, .aload_n 0, 1, []),
  (276, .iload 4, 2, []),
  (278, .iconst 2, 1, []),
  (279, .iadd, 1, []),
  (280, .iaload, 1, []),
  (281, .aload_n 0, 1, []),
  (282, .iload 4, 2, []),
  (284, .iconst 3, 1, []),
  (285, .iadd, 1, []),
  (286, .iaload, 1, []),
  (287, .invokevirtual 39, 3, [97, 4, 1, 7, 0, 766, 767, 768]),
  (290, .aload_n 2, 1, []),
  (291, .aload_n 0, 1, []),
  (292, .iload 4, 2, []),
  (294, .iconst 1, 1, []),
  (295, .iadd, 1, []),
  (296, .iaload, 1, []),
  (297, .aload_n 0, 1, []),
  (298, .iload 4, 2, []),
  (300, .iconst 2, 1, []),
  (301, .iadd, 1, []),
  (302, .iaload, 1, []),
  (303, .aload_n 0, 1, []),
  (304, .iload 4, 2, []),
  (306, .iconst 3, 1, []),
  (307, .iadd, 1, []),
  (308, .iaload, 1, []),
  (309, .invokevirtual 43, 3, [172, 4, 1, 8, 0, 1461, 1462, 1463]),
  (312, .lcmp, 1, []),
  (313, .ifCond .eq 523, 3, [836]),
  (316, .iconst 0, 1, []),
  (317, .ireturn, 1, []),
  (318, .aload_n 1, 1, []),
  (319, .aload_n 0, 1, []),
  (320, .iload 4, 2, []),
  (322, .iconst 1, 1, []),
  (323, .iadd, 1, []),
  (324, .iaload, 1, []),
  (325, .aload_n 0, 1, []),
  (326, .iload 4, 2, []),
  (328, .iconst 2, 1, []),
  (329, .iadd, 1, []),
  (330, .iaload, 1, []),
  (331, .aload_n 0, 1, []),
  (332, .iload 4, 2, []),
  (334, .iconst 3, 1, [])]
def lw_q_3 : List (Nat × am_Q) := [(335, .iadd, 1, []),
  (336, .iaload, 1, []),
  (337, .aload_n 0, 1, []),
  (338, .iload 4, 2, []),
  (340, .iconst 4, 1, []),
  (341, .iadd, 1, []),
  (342, .iaload, 1, []),
  (343, .aload_n 0, 1, []),
  (344, .iload 4, 2, []),
  (346, .iconst 5, 1, []),
  (347, .iadd, 1, []),
  (348, .iaload, 1, []),
  (349, .invokevirtual 44, 3, [98, 6, 1, 7, 0, 880, 881, 882]),
  (352, .aload_n 2, 1, []),
  (353, .aload_n 0, 1, []),
  (354, .iload 4, 2, []),
  (356, .iconst 1, 1, []),
  (357, .iadd, 1, []),
  (358, .iaload, 1, []),
  (359, .aload_n 0, 1, []),
  (360, .iload 4, 2, []),
  (362, .iconst 2, 1, []),
  (363, .iadd, 1, []),
  (364, .iaload, 1, []),
  (365, .aload_n 0, 1, []),
  (366, .iload 4, 2, []),
  (368, .iconst 3, 1, []),
  (369, .iadd, 1, []),
  (370, .iaload, 1, []),
  (371, .aload_n 0, 1, []),
  (372, .iload 4, 2, []),
  (374, .iconst 4, 1, []),
  (375, .iadd, 1, []),
  (376, .iaload, 1, []),
  (377, .aload_n 0, 1, []),
  (378, .iload 4, 2, []),
  (380, .iconst 5, 1, []),
  (381, .iadd, 1, []),
  (382, .iaload, 1, []),
  (383, .invokevirtual 48, 3, [173, 6, 1, 8, 0, 1558, 1559, 1560]),
  (386, .lcmp, 1, []),
  (387, .ifCond .eq 449, 3, [836]),
  (390, .iconst 0, 1, []),
  (391, .ireturn, 1, []),
  (392, .aload_n 1, 1, []),
  (393, .aload_n 0, 1, []),
  (394, .iload 4, 2, []),
  (396, .iconst 1, 1, []),
  (397, .iadd, 1, []),
  (398, .iaload, 1, []),
  (399, .aload_n 0, 1, []),
  (400, .iload 4, 2, []),
  (402, .iconst 2, 1, []),
  (403, .iadd, 1, []),
  (404, .iaload, 1, []),
  (405, .aload_n 0, 1, []),
  (406, .iload 4, 2, []),
  (408, .iconst 3, 1, []),
  (409, .iadd, 1, []),
  (410, .iaload, 1, [])]
def lw_q_4 : List (Nat × am_Q) := [(411, .invokevirtual 49, 3, [100, 4, 1, 7, 0, 884, 885, 886]),
  (414, .aload_n 2, 1, []),
  (415, .aload_n 0, 1, []),
  (416, .iload 4, 2, []),
  (418, .iconst 1, 1, []),
  (419, .iadd, 1, []),
  (420, .iaload, 1, []),
  (421, .aload_n 0, 1, []),
  (422, .iload 4, 2, []),
  (424, .iconst 2, 1, []),
  (425, .iadd, 1, []),
  (426, .iaload, 1, []),
  (427, .aload_n 0, 1, []),
  (428, .iload 4, 2, []),
  (430, .iconst 3, 1, []),
  (431, .iadd, 1, []),
  (432, .iaload, 1, []),
  (433, .invokevirtual 52, 3, [174, 4, 1, 8, 0, 1566, 1567, 1568]),
  (436, .lcmp, 1, []),
  (437, .ifCond .eq 399, 3, [836]),
  (440, .iconst 0, 1, []),
  (441, .ireturn, 1, []),
  (442, .aload_n 1, 1, []),
  (443, .aload_n 0, 1, []),
  (444, .iload 4, 2, []),
  (446, .iconst 1, 1, []),
  (447, .iadd, 1, []),
  (448, .iaload, 1, []),
  (449, .invokevirtual 53, 3, [101, 2, 1, 7, 0, 889, 890, 891]),
  (452, .aload_n 2, 1, []),
  (453, .aload_n 0, 1, []),
  (454, .iload 4, 2, []),
  (456, .iconst 1, 1, []),
  (457, .iadd, 1, []),
  (458, .iaload, 1, []),
  (459, .invokevirtual 56, 3, [175, 2, 1, 8, 0, 1571, 1572, 1573]),
  (462, .if_icmp .eq 374, 3, [836]),
  (465, .iconst 0, 1, []),
  (466, .ireturn, 1, []),
  (467, .aload_n 1, 1, []),
  (468, .aload_n 0, 1, []),
  (469, .iload 4, 2, []),
  (471, .iconst 1, 1, []),
  (472, .iadd, 1, []),
  (473, .iaload, 1, []),
  (474, .aload_n 0, 1, []),
  (475, .iload 4, 2, []),
  (477, .iconst 2, 1, []),
  (478, .iadd, 1, []),
  (479, .iaload, 1, []),
  (480, .invokevirtual 57, 3, [102, 3, 1, 7, 0, 894, 895, 896]),
  (483, .aload_n 2, 1, []),
  (484, .aload_n 0, 1, []),
  (485, .iload 4, 2, []),
  (487, .iconst 1, 1, []),
  (488, .iadd, 1, []),
  (489, .iaload, 1, []),
  (490, .aload_n 0, 1, []),
  (491, .iload 4, 2, []),
  (493, .iconst 2, 1, [])]
def lw_q_5 : List (Nat × am_Q) := [(494, .iadd, 1, []),
  (495, .iaload, 1, []),
  (496, .invokevirtual 61, 3, [181, 3, 1, 8, 0, 1576, 1577, 1578]),
  (499, .lcmp, 1, []),
  (500, .ifCond .eq 336, 3, [836]),
  (503, .iconst 0, 1, []),
  (504, .ireturn, 1, []),
  (505, .aload_n 1, 1, []),
  (506, .aload_n 0, 1, []),
  (507, .iload 4, 2, []),
  (509, .iconst 1, 1, []),
  (510, .iadd, 1, []),
  (511, .iaload, 1, []),
  (512, .aload_n 0, 1, []),
  (513, .iload 4, 2, []),
  (515, .iconst 2, 1, []),
  (516, .iadd, 1, []),
  (517, .iaload, 1, []),
  (518, .invokevirtual 62, 3, [103, 3, 1, 7, 0, 901, 902, 903]),
  (521, .aload_n 2, 1, []),
  (522, .aload_n 0, 1, []),
  (523, .iload 4, 2, []),
  (525, .iconst 1, 1, []),
  (526, .iadd, 1, []),
  (527, .iaload, 1, []),
  (528, .aload_n 0, 1, []),
  (529, .iload 4, 2, []),
  (531, .iconst 2, 1, []),
  (532, .iadd, 1, []),
  (533, .iaload, 1, []),
  (534, .invokevirtual 66, 3, [182, 3, 1, 8, 0, 1599, 1600, 1601]),
  (537, .if_icmp .eq 299, 3, [836]),
  (540, .iconst 0, 1, []),
  (541, .ireturn, 1, []),
  (542, .aload_n 1, 1, []),
  (543, .aload_n 0, 1, []),
  (544, .iload 4, 2, []),
  (546, .iconst 1, 1, []),
  (547, .iadd, 1, []),
  (548, .iaload, 1, []),
  (549, .aload_n 0, 1, []),
  (550, .iload 4, 2, []),
  (552, .iconst 2, 1, []),
  (553, .iadd, 1, []),
  (554, .iaload, 1, []),
  (555, .aload_n 0, 1, []),
  (556, .iload 4, 2, []),
  (558, .iconst 3, 1, []),
  (559, .iadd, 1, []),
  (560, .iaload, 1, []),
  (561, .invokevirtual 67, 3, [105, 4, 1, 7, 0, 914, 915, 916]),
  (564, .aload_n 2, 1, []),
  (565, .aload_n 0, 1, []),
  (566, .iload 4, 2, []),
  (568, .iconst 1, 1, []),
  (569, .iadd, 1, []),
  (570, .iaload, 1, []),
  (571, .aload_n 0, 1, []),
  (572, .iload 4, 2, []),
  (574, .iconst 2, 1, [])]
def lw_q_6 : List (Nat × am_Q) := [(575, .iadd, 1, []),
  (576, .iaload, 1, []),
  (577, .aload_n 0, 1, []),
  (578, .iload 4, 2, []),
  (580, .iconst 3, 1, []),
  (581, .iadd, 1, []),
  (582, .iaload, 1, []),
  (583, .invokevirtual 71, 3, [183, 4, 1, 8, 0, 1604, 1605, 1606]),
  (586, .if_icmp .eq 250, 3, [836]),
  (589, .iconst 0, 1, []),
  (590, .ireturn, 1, []),
  (591, .aload_n 1, 1, []),
  (592, .aload_n 0, 1, []),
  (593, .iload 4, 2, []),
  (595, .iconst 1, 1, []),
  (596, .iadd, 1, []),
  (597, .iaload, 1, []),
  (598, .aload_n 0, 1, []),
  (599, .iload 4, 2, []),
  (601, .iconst 2, 1, []),
  (602, .iadd, 1, []),
  (603, .iaload, 1, []),
  (604, .aload_n 0, 1, []),
  (605, .iload 4, 2, []),
  (607, .iconst 3, 1, []),
  (608, .iadd, 1, []),
  (609, .iaload, 1, []),
  (610, .invokevirtual 72, 3, [106, 4, 1, 7, 0, 925, 926, 927]),
  (613, .aload_n 2, 1, []),
  (614, .aload_n 0, 1, []),
  (615, .iload 4, 2, []),
  (617, .iconst 1, 1, []),
  (618, .iadd, 1, []),
  (619, .iaload, 1, []),
  (620, .aload_n 0, 1, []),
  (621, .iload 4, 2, []),
  (623, .iconst 2, 1, []),
  (624, .iadd, 1, []),
  (625, .iaload, 1, []),
  (626, .aload_n 0, 1, []),
  (627, .iload 4, 2, []),
  (629, .iconst 3, 1, []),
  (630, .iadd, 1, []),
  (631, .iaload, 1, []),
  (632, .invokevirtual 75, 3, [186, 4, 1, 8, 0, 1612, 1613, 1614]),
  (635, .if_icmp .eq 201, 3, [836]),
  (638, .iconst 0, 1, []),
  (639, .ireturn, 1, []),
  (640, .aload_n 1, 1, []),
  (641, .aload_n 0, 1, []),
  (642, .iload 4, 2, []),
  (644, .iconst 1, 1, []),
  (645, .iadd, 1, []),
  (646, .iaload, 1, []),
  (647, .aload_n 0, 1, []),
  (648, .iload 4, 2, []),
  (650, .iconst 2, 1, []),
  (651, .iadd, 1, []),
  (652, .iaload, 1, []),
  (653, .aload_n 0, 1, [])]
def lw_q_7 : List (Nat × am_Q) := [(654, .iload 4, 2, []),
  (656, .iconst 3, 1, []),
  (657, .iadd, 1, []),
  (658, .iaload, 1, []),
  (659, .aload_n 0, 1, []),
  (660, .iload 4, 2, []),
  (662, .iconst 4, 1, []),
  (663, .iadd, 1, []),
  (664, .iaload, 1, []),
  (665, .aload_n 0, 1, []),
  (666, .iload 4, 2, []),
  (668, .iconst 5, 1, []),
  (669, .iadd, 1, []),
  (670, .iaload, 1, []),
  (671, .invokevirtual 76, 3, [107, 6, 1, 7, 0, 940, 941, 942]),
  (674, .aload_n 2, 1, []),
  (675, .aload_n 0, 1, []),
  (676, .iload 4, 2, []),
  (678, .iconst 1, 1, []),
  (679, .iadd, 1, []),
  (680, .iaload, 1, []),
  (681, .aload_n 0, 1, []),
  (682, .iload 4, 2, []),
  (684, .iconst 2, 1, []),
  (685, .iadd, 1, []),
  (686, .iaload, 1, []),
  (687, .aload_n 0, 1, []),
  (688, .iload 4, 2, []),
  (690, .iconst 3, 1, []),
  (691, .iadd, 1, []),
  (692, .iaload, 1, []),
  (693, .aload_n 0, 1, []),
  (694, .iload 4, 2, []),
  (696, .iconst 4, 1, []),
  (697, .iadd, 1, []),
  (698, .iaload, 1, []),
  (699, .aload_n 0, 1, []),
  (700, .iload 4, 2, []),
  (702, .iconst 5, 1, []),
  (703, .iadd, 1, []),
  (704, .iaload, 1, []),
  (705, .invokevirtual 79, 3, [187, 6, 1, 8, 0, 1622, 1623, 1624]),
  (708, .if_icmp .eq 128, 3, [836]),
  (711, .iconst 0, 1, []),
  (712, .ireturn, 1, []),
  (713, .aload_n 1, 1, []),
  (714, .aload_n 0, 1, []),
  (715, .iload 4, 2, []),
  (717, .iconst 1, 1, []),
  (718, .iadd, 1, []),
  (719, .iaload, 1, []),
  (720, .aload_n 3, 1, []),
  (724, .istore 5, 2, []),
  (726, .aload_n 2, 1, []),
  (727, .aload_n 0, 1, []),
  (728, .iload 4, 2, []),
  (730, .iconst 1, 1, []),
  (731, .iadd, 1, []),
  (732, .iaload, 1, []),
  (733, .invokevirtual 85, 3, [198, 2, 1, 8, 0, 1626, 1627, 1628])]
def lw_q_8 : List (Nat × am_Q) := [(736, .dstore 6, 2, []),
  (738, .aload_n 2, 1, []),
  (739, .invokevirtual 86, 3, [115, 1, 1, 8, 0, 1336, 1337, 1338]),
  (742, .iload 5, 2, []),
  (744, .if_icmp .eq 5, 3, [749]),
  (747, .iconst 0, 1, []),
  (748, .ireturn, 1, []),
  (749, .iload 5, 2, []),
  (751, .ifCond .ne 32, 3, [783]),
  (754, .aload_n 3, 1, []),
  (755, .iconst 0, 1, []),
  (756, .daload, 1, []),
  (757, .dload 6, 2, []),
  (759, .dcmp .l, 1, []),
  (760, .ifCond .eq 23, 3, [783]),
  (763, .aload_n 3, 1, []),
  (764, .iconst 0, 1, []),
  (765, .daload, 1, []),
  (766, .aload_n 3, 1, []),
  (767, .iconst 0, 1, []),
  (768, .daload, 1, []),
  (769, .dcmp .l, 1, []),
  (770, .ifCond .eq 11, 3, [781]),
  (773, .dload 6, 2, []),
  (775, .dload 6, 2, []),
  (777, .dcmp .l, 1, []),
  (778, .ifCond .ne 5, 3, [783]),
  (781, .iconst 0, 1, []),
  (782, .ireturn, 1, []),
  (783, .goto 53, 3, [836]),
  (786, .aload_n 1, 1, []),
  (787, .aload_n 0, 1, []),
  (788, .iload 4, 2, []),
  (790, .iconst 1, 1, []),
  (791, .iadd, 1, []),
  (792, .iaload, 1, []),
  (793, .invokevirtual 90, 3, [109, 2, 1, 7, 0, 944, 945, 946]),
  (796, .aload_n 2, 1, []),
  (797, .aload_n 0, 1, []),
  (798, .iload 4, 2, []),
  (800, .iconst 1, 1, []),
  (801, .iadd, 1, []),
  (802, .iaload, 1, []),
  (803, .invokevirtual 93, 3, [199, 2, 1, 8, 0, 1675, 1676, 1677]),
  (806, .if_icmp .eq 30, 3, [836]),
  (809, .iconst 0, 1, []),
  (810, .ireturn, 1, []),
  (811, .aload_n 1, 1, []),
  (812, .aload_n 0, 1, []),
  (813, .iload 4, 2, []),
  (815, .iconst 1, 1, []),
  (816, .iadd, 1, []),
  (817, .iaload, 1, []),
  (818, .invokevirtual 94, 3, [110, 2, 1, 7, 0, 1027, 1028, 1029]),
  (821, .aload_n 2, 1, []),
  (822, .aload_n 0, 1, []),
  (823, .iload 4, 2, []),
  (825, .iconst 1, 1, []),
  (826, .iadd, 1, []),
  (827, .iaload, 1, [])]
def lw_q_9 : List (Nat × am_Q) := [(828, .invokevirtual 97, 3, [200, 2, 1, 8, 0, 1680, 1681, 1682]),
  (831, .if_icmp .eq 5, 3, [836]),
  (834, .iconst 0, 1, []),
  (835, .ireturn, 1, []),
  (836, .iinc 4 6, 3, []),
  (839, .goto (-816), 3, [23]),
  (842, .iconst 1, 1, []),
  (843, .ireturn, 1, [])]
def lw_q : List (Nat × am_Q) := lw_q_0 ++ lw_q_1 ++ lw_q_2 ++ lw_q_3 ++ lw_q_4 ++ lw_q_5 ++ lw_q_6 ++ lw_q_7 ++ lw_q_8 ++ lw_q_9
set_option maxRecDepth 100000 in
theorem lw_k_0 : am_chk am_Nm "SureSumsLaw" code lw_q_0 = true := by decide +kernel
set_option maxRecDepth 100000 in
theorem lw_k_1 : am_chk am_Nm "SureSumsLaw" code lw_q_1 = true := by decide +kernel
set_option maxRecDepth 100000 in
theorem lw_k_2 : am_chk am_Nm "SureSumsLaw" code lw_q_2 = true := by decide +kernel
set_option maxRecDepth 100000 in
theorem lw_k_3 : am_chk am_Nm "SureSumsLaw" code lw_q_3 = true := by decide +kernel
set_option maxRecDepth 100000 in
theorem lw_k_4 : am_chk am_Nm "SureSumsLaw" code lw_q_4 = true := by decide +kernel
set_option maxRecDepth 100000 in
theorem lw_k_5 : am_chk am_Nm "SureSumsLaw" code lw_q_5 = true := by decide +kernel
set_option maxRecDepth 100000 in
theorem lw_k_6 : am_chk am_Nm "SureSumsLaw" code lw_q_6 = true := by decide +kernel
set_option maxRecDepth 100000 in
theorem lw_k_7 : am_chk am_Nm "SureSumsLaw" code lw_q_7 = true := by decide +kernel
set_option maxRecDepth 100000 in
theorem lw_k_8 : am_chk am_Nm "SureSumsLaw" code lw_q_8 = true := by decide +kernel
set_option maxRecDepth 100000 in
theorem lw_k_9 : am_chk am_Nm "SureSumsLaw" code lw_q_9 = true := by decide +kernel
theorem lw_k : am_chk am_Nm "SureSumsLaw" code lw_q = true := by
  simp only [lw_q, am_chk, List.all_append, Bool.and_eq_true]
  exact ⟨⟨⟨⟨⟨⟨⟨⟨⟨lw_k_0, lw_k_1⟩, lw_k_2⟩, lw_k_3⟩, lw_k_4⟩, lw_k_5⟩, lw_k_6⟩, lw_k_7⟩, lw_k_8⟩, lw_k_9⟩
def lw_cd : Nat → Option am_Q := fun pc => lw_q.lookup pc
theorem lw_cd_ok : ∀ pc q, lw_cd pc = some q → decode code pc = .ok (q.1, q.2.1) ∧ am_lk "SureSumsLaw" am_cl am_U pc q := fun _ _ h => ⟨(am_chk_at lw_k h).1, (am_chk_at lw_k h).2.1⟩
theorem lw_cd_ck : ∀ pc q, lw_cd pc = some q → decode code pc = .ok (q.1, q.2.1) ∧ am_ck "SureSumsLaw" am_cl am_U am_Nm q := fun _ _ h => ⟨(am_chk_at lw_k h).1, (am_chk_at lw_k h).2.2⟩
/-- what holds through the law's run -/
def lw_Cx (p : Program) (l : Launch) (s : State) (m : MethodId) (c : Code) (D : va_G) (cy : Nat → ClassId) (ad : Nat → Nat) (b Ln : Nat) (xs : Nat → Int32) (ext : Nat → List Value → am_M → Option am_R) (Ex : State → Prop) : Prop :=
  p.tables.exec = Jvm.exec ∧ c.code = code ∧ c.maxLocals = 8 ∧ s.vm.findClass "SureSumsLaw" = some m.cls ∧ (∀ w ∈ am_U, w.before #[Value.ref b] s = true) ∧ va_K D am_cl (am_tys cy) s ∧ am_Exk ad am_SH.length Ex ∧ Ex s ∧ (∀ d j as mem r nm, am_Ys j = none → ext j as mem = some r → am_Nm j = some nm → am_Mt l D am_cl cy ad am_SH Ex am_U nm (d + 1) as mem r) ∧ va_X b Ln xs s s.heap ∧ b < s.heap.size ∧ ad 82 = b ∧ (∀ k, k < am_SH.length → s.heap.size ≤ ad k)
section LAWC
variable {p : Program} {l : Launch} {e : Env} {s : State} {m : MethodId} {below : List Frame} {meth : Method} {c : Code} {Q : State → Prop} {D : va_G} {cy : Nat → ClassId} {ad : Nat → Nat} {b Ln : Nat} {xs : Nat → Int32} {ext : Nat → List Value → am_M → Option am_R} {Ex : State → Prop}
theorem lw_b (C : lw_Cx p l s m c D cy ad b Ln xs ext Ex) {x x' : am_C} (k : Nat) (h : am_run lw_cd k x = some x') (g : lw_W p l e s m b below meth c Q D cy ad x') : lw_W p l e s m b below meth c Q D cy ad x :=
  lw_blk C.1 C.2.1 C.2.2.2.1 C.2.2.2.2.1 C.2.2.2.2.2.1 lw_cd_ok k h g
theorem lw_s (C : lw_Cx p l s m c D cy ad b Ln xs ext Ex) {pc : Nat} {i : Int32} {ls : List (Option Value)} {st : List Value} {mem : am_M} {q : List Nat} (hd : lw_cd pc = some (.iaload, 1, q)) (hi : vp_in i Ln)
    (k : lw_W p l e s m b below meth c Q D cy ad (pc + 1, ls, .int (xs i.toNatClampNeg) :: st, mem)) : lw_W p l e s m b below meth c Q D cy ad (pc, ls, .int i :: .ref 82 :: st, mem) :=
  lw_sld C.1 C.2.1 C.2.2.2.2.2.2.2.2.2.1 C.2.2.2.2.2.2.2.2.2.2.1 C.2.2.2.2.2.2.2.2.2.2.2.1 (lw_cd_ok _ _ hd).1 hi k
theorem lw_l (C : lw_Cx p l s m c D cy ad b Ln xs ext Ex) {pc : Nat} {ls : List (Option Value)} {st : List Value} {mem : am_M} {q : List Nat} (hd : lw_cd pc = some (.arraylength, 1, q))
    (k : lw_W p l e s m b below meth c Q D cy ad (pc + 1, ls, .int (Int32.ofNat Ln) :: st, mem)) : lw_W p l e s m b below meth c Q D cy ad (pc, ls, .ref 82 :: st, mem) :=
  lw_slen C.1 C.2.1 C.2.2.2.2.2.2.2.2.2.1 C.2.2.2.2.2.2.2.2.2.2.1 C.2.2.2.2.2.2.2.2.2.2.2.1 (lw_cd_ok _ _ hd).1 k
theorem lw_c (C : lw_Cx p l s m c D cy ad b Ln xs ext Ex) {pc i : Nat} {ls : List (Option Value)} {st : List Value} {mem : am_M} {r : am_R} {j n vi ci : Nat} {rs : List Nat} {as : List Value} (hd : lw_cd pc = some (.invokevirtual i, 3, j :: n :: vi :: ci :: rs)) (has : (st.take n).reverse = as) (hc : (Nat.ble n st.length && Nat.ble (((st.drop n).map fun v => v.category).sum) 8 && am_rc am_SH vi ci as) = true)
    (hR : am_Rn ext 400 j as mem r) (k : lw_W p l e s m b below meth c Q D cy ad (pc + 3, ls, r.1.toList ++ st.drop n, r.2)) : lw_W p l e s m b below meth c Q D cy ad (pc, ls, st, mem) :=
  lw_call C.1 C.2.1 C.2.2.1 C.2.2.2.1 C.2.2.2.2.1 C.2.2.2.2.2.1 C.2.2.2.2.2.2.1 C.2.2.2.2.2.2.2.1 C.2.2.2.2.2.2.2.2.1 (lw_cd_ck _ _ hd).1 (lw_cd_ck _ _ hd).2 rfl rfl has hc hR C.2.2.2.2.2.2.2.2.2.2.2.2 k
theorem lw_eqi (C : lw_Cx p l s m c D cy ad b Ln xs ext Ex) {pc t : Nat} {off : Int} {r : Int32} {ls : List (Option Value)} {st : List Value} {mem : am_M} (hd : lw_cd pc = some (.if_icmp .eq off, 3, [t]))
    (k : lw_W p l e s m b below meth c Q D cy ad (t, ls, st, mem)) : lw_W p l e s m b below meth c Q D cy ad (pc, ls, .int r :: .int r :: st, mem) := by
  refine lw_b C (x' := (t, ls, st, mem)) 1 ?_ k
  simp only [am_run, hd]
  simp [am_pl, am_step, am_b2, am_cond, am_hd]
theorem lw_eql (C : lw_Cx p l s m c D cy ad b Ln xs ext Ex) {pc t : Nat} {off : Int} {r : Int64} {ls : List (Option Value)} {st : List Value} {mem : am_M} {q1 : List Nat} (hd : lw_cd pc = some (.lcmp, 1, q1)) (hd2 : lw_cd (pc + 1) = some (.ifCond .eq off, 3, [t]))
    (k : lw_W p l e s m b below meth c Q D cy ad (t, ls, st, mem)) : lw_W p l e s m b below meth c Q D cy ad (pc, ls, .long r :: .long r :: st, mem) := by
  refine lw_b C (x' := (t, ls, st, mem)) 2 ?_ k
  have h0 : lg_cmp r r = 0 := (am_lcmp_eq r r).mpr rfl
  simp only [am_run, hd]
  simp [am_pl, am_step, am_lc, hd2, am_b1, am_cond, am_hd, h0]
theorem lw_fg {pc : Nat} {l1 l2 : List (Option Value)} {st : List Value} {mem : am_M} (h : am_le l1 l2) (k : lw_W p l e s m b below meth c Q D cy ad (pc, l1, st, mem)) : lw_W p l e s m b below meth c Q D cy ad (pc, l2, st, mem) := by
  intro H locs L hP hD hS hl hn
  refine k H locs L hP hD hS (am_has_sub hl fun q hq => ?_) (h.1.trans hn)
  obtain ⟨i, u⟩ := q
  obtain ⟨v, hv, rfl⟩ := am_lv_mem.mp hq
  exact am_lv_mem.mpr ⟨v, h.2 i v hv, rfl⟩
set_option maxRecDepth 100000 in
theorem lwc_0 (C : lw_Cx p l s m c D cy ad b Ln xs ext Ex) (i : Int32) (h1 : vp_in (i + 1) Ln) (h2 : vp_in (i + 2) Ln) (h3 : vp_in (i + 3) Ln) (h4 : vp_in (i + 4) Ln) (h5 : vp_in (i + 5) Ln) {r : Int32} {m0 m1 m2 : am_M} (hR1 : am_Rn ext 400 92 [.ref 0, .int (xs (i + 1).toNatClampNeg), .int (xs (i + 2).toNatClampNeg), .int (xs (i + 3).toNatClampNeg), .int (xs (i + 4).toNatClampNeg), .int (xs (i + 5).toNatClampNeg)] m0 (some (.int r), m1)) (hR2 : am_Rn ext 400 116 [.ref 42, .int (xs (i + 1).toNatClampNeg), .int (xs (i + 2).toNatClampNeg), .int (xs (i + 3).toNatClampNeg), .int (xs (i + 4).toNatClampNeg), .int (xs (i + 5).toNatClampNeg)] m1 (some (.int r), m2)) (k : lw_W p l e s m b below meth c Q D cy ad (836, [some (.ref 82), some (.ref 0), some (.ref 42), some (.ref 81), some (.int i), none, none, none], [], m2)) : lw_W p l e s m b below meth c Q D cy ad (120, [some (.ref 82), some (.ref 0), some (.ref 42), some (.ref 81), some (.int i), none, none, none], [], m0) := by
  refine lw_b C (x' := (126, [some (.ref 82), some (.ref 0), some (.ref 42), some (.ref 81), some (.int i), none, none, none], [.int (i + 1), .ref 82, .ref 0], m0)) 5 rfl ?_
  refine lw_s C rfl h1 ?_
  refine lw_b C (x' := (132, [some (.ref 82), some (.ref 0), some (.ref 42), some (.ref 81), some (.int i), none, none, none], [.int (i + 2), .ref 82, .int (xs (i + 1).toNatClampNeg), .ref 0], m0)) 4 rfl ?_
  refine lw_s C rfl h2 ?_
  refine lw_b C (x' := (138, [some (.ref 82), some (.ref 0), some (.ref 42), some (.ref 81), some (.int i), none, none, none], [.int (i + 3), .ref 82, .int (xs (i + 2).toNatClampNeg), .int (xs (i + 1).toNatClampNeg), .ref 0], m0)) 4 rfl ?_
  refine lw_s C rfl h3 ?_
  refine lw_b C (x' := (144, [some (.ref 82), some (.ref 0), some (.ref 42), some (.ref 81), some (.int i), none, none, none], [.int (i + 4), .ref 82, .int (xs (i + 3).toNatClampNeg), .int (xs (i + 2).toNatClampNeg), .int (xs (i + 1).toNatClampNeg), .ref 0], m0)) 4 rfl ?_
  refine lw_s C rfl h4 ?_
  refine lw_b C (x' := (150, [some (.ref 82), some (.ref 0), some (.ref 42), some (.ref 81), some (.int i), none, none, none], [.int (i + 5), .ref 82, .int (xs (i + 4).toNatClampNeg), .int (xs (i + 3).toNatClampNeg), .int (xs (i + 2).toNatClampNeg), .int (xs (i + 1).toNatClampNeg), .ref 0], m0)) 4 rfl ?_
  refine lw_s C rfl h5 ?_
  refine lw_c C (as := [.ref 0, .int (xs (i + 1).toNatClampNeg), .int (xs (i + 2).toNatClampNeg), .int (xs (i + 3).toNatClampNeg), .int (xs (i + 4).toNatClampNeg), .int (xs (i + 5).toNatClampNeg)]) rfl rfl rfl hR1 ?_
  show lw_W p l e s m b below meth c Q D cy ad (154, [some (.ref 82), some (.ref 0), some (.ref 42), some (.ref 81), some (.int i), none, none, none], [.int r], m1)
  refine lw_b C (x' := (160, [some (.ref 82), some (.ref 0), some (.ref 42), some (.ref 81), some (.int i), none, none, none], [.int (i + 1), .ref 82, .ref 42, .int r], m1)) 5 rfl ?_
  refine lw_s C rfl h1 ?_
  refine lw_b C (x' := (166, [some (.ref 82), some (.ref 0), some (.ref 42), some (.ref 81), some (.int i), none, none, none], [.int (i + 2), .ref 82, .int (xs (i + 1).toNatClampNeg), .ref 42, .int r], m1)) 4 rfl ?_
  refine lw_s C rfl h2 ?_
  refine lw_b C (x' := (172, [some (.ref 82), some (.ref 0), some (.ref 42), some (.ref 81), some (.int i), none, none, none], [.int (i + 3), .ref 82, .int (xs (i + 2).toNatClampNeg), .int (xs (i + 1).toNatClampNeg), .ref 42, .int r], m1)) 4 rfl ?_
  refine lw_s C rfl h3 ?_
  refine lw_b C (x' := (178, [some (.ref 82), some (.ref 0), some (.ref 42), some (.ref 81), some (.int i), none, none, none], [.int (i + 4), .ref 82, .int (xs (i + 3).toNatClampNeg), .int (xs (i + 2).toNatClampNeg), .int (xs (i + 1).toNatClampNeg), .ref 42, .int r], m1)) 4 rfl ?_
  refine lw_s C rfl h4 ?_
  refine lw_b C (x' := (184, [some (.ref 82), some (.ref 0), some (.ref 42), some (.ref 81), some (.int i), none, none, none], [.int (i + 5), .ref 82, .int (xs (i + 4).toNatClampNeg), .int (xs (i + 3).toNatClampNeg), .int (xs (i + 2).toNatClampNeg), .int (xs (i + 1).toNatClampNeg), .ref 42, .int r], m1)) 4 rfl ?_
  refine lw_s C rfl h5 ?_
  refine lw_c C (as := [.ref 42, .int (xs (i + 1).toNatClampNeg), .int (xs (i + 2).toNatClampNeg), .int (xs (i + 3).toNatClampNeg), .int (xs (i + 4).toNatClampNeg), .int (xs (i + 5).toNatClampNeg)]) rfl rfl rfl hR2 ?_
  show lw_W p l e s m b below meth c Q D cy ad (188, [some (.ref 82), some (.ref 0), some (.ref 42), some (.ref 81), some (.int i), none, none, none], [.int r, .int r], m2)
  refine lw_eqi C rfl ?_
  exact k
set_option maxRecDepth 100000 in
theorem lwc_1 (C : lw_Cx p l s m c D cy ad b Ln xs ext Ex) (i : Int32) (h1 : vp_in (i + 1) Ln) {r : Int32} {m0 m1 m2 : am_M} (hR1 : am_Rn ext 400 94 [.ref 0, .int (xs (i + 1).toNatClampNeg)] m0 (some (.int r), m1)) (hR2 : am_Rn ext 400 144 [.ref 42, .int (xs (i + 1).toNatClampNeg)] m1 (some (.int r), m2)) (k : lw_W p l e s m b below meth c Q D cy ad (836, [some (.ref 82), some (.ref 0), some (.ref 42), some (.ref 81), some (.int i), none, none, none], [], m2)) : lw_W p l e s m b below meth c Q D cy ad (193, [some (.ref 82), some (.ref 0), some (.ref 42), some (.ref 81), some (.int i), none, none, none], [], m0) := by
  refine lw_b C (x' := (199, [some (.ref 82), some (.ref 0), some (.ref 42), some (.ref 81), some (.int i), none, none, none], [.int (i + 1), .ref 82, .ref 0], m0)) 5 rfl ?_
  refine lw_s C rfl h1 ?_
  refine lw_c C (as := [.ref 0, .int (xs (i + 1).toNatClampNeg)]) rfl rfl rfl hR1 ?_
  show lw_W p l e s m b below meth c Q D cy ad (203, [some (.ref 82), some (.ref 0), some (.ref 42), some (.ref 81), some (.int i), none, none, none], [.int r], m1)
  refine lw_b C (x' := (209, [some (.ref 82), some (.ref 0), some (.ref 42), some (.ref 81), some (.int i), none, none, none], [.int (i + 1), .ref 82, .ref 42, .int r], m1)) 5 rfl ?_
  refine lw_s C rfl h1 ?_
  refine lw_c C (as := [.ref 42, .int (xs (i + 1).toNatClampNeg)]) rfl rfl rfl hR2 ?_
  show lw_W p l e s m b below meth c Q D cy ad (213, [some (.ref 82), some (.ref 0), some (.ref 42), some (.ref 81), some (.int i), none, none, none], [.int r, .int r], m2)
  refine lw_eqi C rfl ?_
  exact k
set_option maxRecDepth 100000 in
theorem lwc_2 (C : lw_Cx p l s m c D cy ad b Ln xs ext Ex) (i : Int32) (h1 : vp_in (i + 1) Ln) {r : Int32} {m0 m1 m2 : am_M} (hR1 : am_Rn ext 400 95 [.ref 0, .int (xs (i + 1).toNatClampNeg)] m0 (some (.int r), m1)) (hR2 : am_Rn ext 400 145 [.ref 42, .int (xs (i + 1).toNatClampNeg)] m1 (some (.int r), m2)) (k : lw_W p l e s m b below meth c Q D cy ad (836, [some (.ref 82), some (.ref 0), some (.ref 42), some (.ref 81), some (.int i), none, none, none], [], m2)) : lw_W p l e s m b below meth c Q D cy ad (218, [some (.ref 82), some (.ref 0), some (.ref 42), some (.ref 81), some (.int i), none, none, none], [], m0) := by
  refine lw_b C (x' := (224, [some (.ref 82), some (.ref 0), some (.ref 42), some (.ref 81), some (.int i), none, none, none], [.int (i + 1), .ref 82, .ref 0], m0)) 5 rfl ?_
  refine lw_s C rfl h1 ?_
  refine lw_c C (as := [.ref 0, .int (xs (i + 1).toNatClampNeg)]) rfl rfl rfl hR1 ?_
  show lw_W p l e s m b below meth c Q D cy ad (228, [some (.ref 82), some (.ref 0), some (.ref 42), some (.ref 81), some (.int i), none, none, none], [.int r], m1)
  refine lw_b C (x' := (234, [some (.ref 82), some (.ref 0), some (.ref 42), some (.ref 81), some (.int i), none, none, none], [.int (i + 1), .ref 82, .ref 42, .int r], m1)) 5 rfl ?_
  refine lw_s C rfl h1 ?_
  refine lw_c C (as := [.ref 42, .int (xs (i + 1).toNatClampNeg)]) rfl rfl rfl hR2 ?_
  show lw_W p l e s m b below meth c Q D cy ad (238, [some (.ref 82), some (.ref 0), some (.ref 42), some (.ref 81), some (.int i), none, none, none], [.int r, .int r], m2)
  refine lw_eqi C rfl ?_
  exact k
set_option maxRecDepth 100000 in
theorem lwc_3 (C : lw_Cx p l s m c D cy ad b Ln xs ext Ex) (i : Int32) (h1 : vp_in (i + 1) Ln) {r : Int32} {m0 m1 m2 : am_M} (hR1 : am_Rn ext 400 96 [.ref 0, .int (xs (i + 1).toNatClampNeg)] m0 (some (.int r), m1)) (hR2 : am_Rn ext 400 147 [.ref 42, .int (xs (i + 1).toNatClampNeg)] m1 (some (.int r), m2)) (k : lw_W p l e s m b below meth c Q D cy ad (836, [some (.ref 82), some (.ref 0), some (.ref 42), some (.ref 81), some (.int i), none, none, none], [], m2)) : lw_W p l e s m b below meth c Q D cy ad (243, [some (.ref 82), some (.ref 0), some (.ref 42), some (.ref 81), some (.int i), none, none, none], [], m0) := by
  refine lw_b C (x' := (249, [some (.ref 82), some (.ref 0), some (.ref 42), some (.ref 81), some (.int i), none, none, none], [.int (i + 1), .ref 82, .ref 0], m0)) 5 rfl ?_
  refine lw_s C rfl h1 ?_
  refine lw_c C (as := [.ref 0, .int (xs (i + 1).toNatClampNeg)]) rfl rfl rfl hR1 ?_
  show lw_W p l e s m b below meth c Q D cy ad (253, [some (.ref 82), some (.ref 0), some (.ref 42), some (.ref 81), some (.int i), none, none, none], [.int r], m1)
  refine lw_b C (x' := (259, [some (.ref 82), some (.ref 0), some (.ref 42), some (.ref 81), some (.int i), none, none, none], [.int (i + 1), .ref 82, .ref 42, .int r], m1)) 5 rfl ?_
  refine lw_s C rfl h1 ?_
  refine lw_c C (as := [.ref 42, .int (xs (i + 1).toNatClampNeg)]) rfl rfl rfl hR2 ?_
  show lw_W p l e s m b below meth c Q D cy ad (263, [some (.ref 82), some (.ref 0), some (.ref 42), some (.ref 81), some (.int i), none, none, none], [.int r, .int r], m2)
  refine lw_eqi C rfl ?_
  exact k
set_option maxRecDepth 100000 in
theorem lwc_4 (C : lw_Cx p l s m c D cy ad b Ln xs ext Ex) (i : Int32) (h1 : vp_in (i + 1) Ln) (h2 : vp_in (i + 2) Ln) (h3 : vp_in (i + 3) Ln) {r : Int64} {m0 m1 m2 : am_M} (hR1 : am_Rn ext 400 97 [.ref 0, .int (xs (i + 1).toNatClampNeg), .int (xs (i + 2).toNatClampNeg), .int (xs (i + 3).toNatClampNeg)] m0 (some (.long r), m1)) (hR2 : am_Rn ext 400 172 [.ref 42, .int (xs (i + 1).toNatClampNeg), .int (xs (i + 2).toNatClampNeg), .int (xs (i + 3).toNatClampNeg)] m1 (some (.long r), m2)) (k : lw_W p l e s m b below meth c Q D cy ad (836, [some (.ref 82), some (.ref 0), some (.ref 42), some (.ref 81), some (.int i), none, none, none], [], m2)) : lw_W p l e s m b below meth c Q D cy ad (268, [some (.ref 82), some (.ref 0), some (.ref 42), some (.ref 81), some (.int i), none, none, none], [], m0) := by
  refine lw_b C (x' := (274, [some (.ref 82), some (.ref 0), some (.ref 42), some (.ref 81), some (.int i), none, none, none], [.int (i + 1), .ref 82, .ref 0], m0)) 5 rfl ?_
  refine lw_s C rfl h1 ?_
  refine lw_b C (x' := (280, [some (.ref 82), some (.ref 0), some (.ref 42), some (.ref 81), some (.int i), none, none, none], [.int (i + 2), .ref 82, .int (xs (i + 1).toNatClampNeg), .ref 0], m0)) 4 rfl ?_
  refine lw_s C rfl h2 ?_
  refine lw_b C (x' := (286, [some (.ref 82), some (.ref 0), some (.ref 42), some (.ref 81), some (.int i), none, none, none], [.int (i + 3), .ref 82, .int (xs (i + 2).toNatClampNeg), .int (xs (i + 1).toNatClampNeg), .ref 0], m0)) 4 rfl ?_
  refine lw_s C rfl h3 ?_
  refine lw_c C (as := [.ref 0, .int (xs (i + 1).toNatClampNeg), .int (xs (i + 2).toNatClampNeg), .int (xs (i + 3).toNatClampNeg)]) rfl rfl rfl hR1 ?_
  show lw_W p l e s m b below meth c Q D cy ad (290, [some (.ref 82), some (.ref 0), some (.ref 42), some (.ref 81), some (.int i), none, none, none], [.long r], m1)
  refine lw_b C (x' := (296, [some (.ref 82), some (.ref 0), some (.ref 42), some (.ref 81), some (.int i), none, none, none], [.int (i + 1), .ref 82, .ref 42, .long r], m1)) 5 rfl ?_
  refine lw_s C rfl h1 ?_
  refine lw_b C (x' := (302, [some (.ref 82), some (.ref 0), some (.ref 42), some (.ref 81), some (.int i), none, none, none], [.int (i + 2), .ref 82, .int (xs (i + 1).toNatClampNeg), .ref 42, .long r], m1)) 4 rfl ?_
  refine lw_s C rfl h2 ?_
  refine lw_b C (x' := (308, [some (.ref 82), some (.ref 0), some (.ref 42), some (.ref 81), some (.int i), none, none, none], [.int (i + 3), .ref 82, .int (xs (i + 2).toNatClampNeg), .int (xs (i + 1).toNatClampNeg), .ref 42, .long r], m1)) 4 rfl ?_
  refine lw_s C rfl h3 ?_
  refine lw_c C (as := [.ref 42, .int (xs (i + 1).toNatClampNeg), .int (xs (i + 2).toNatClampNeg), .int (xs (i + 3).toNatClampNeg)]) rfl rfl rfl hR2 ?_
  show lw_W p l e s m b below meth c Q D cy ad (312, [some (.ref 82), some (.ref 0), some (.ref 42), some (.ref 81), some (.int i), none, none, none], [.long r, .long r], m2)
  refine lw_eql C rfl rfl ?_
  exact k
set_option maxRecDepth 100000 in
theorem lwc_5 (C : lw_Cx p l s m c D cy ad b Ln xs ext Ex) (i : Int32) (h1 : vp_in (i + 1) Ln) (h2 : vp_in (i + 2) Ln) (h3 : vp_in (i + 3) Ln) (h4 : vp_in (i + 4) Ln) (h5 : vp_in (i + 5) Ln) {r : Int64} {m0 m1 m2 : am_M} (hR1 : am_Rn ext 400 98 [.ref 0, .int (xs (i + 1).toNatClampNeg), .int (xs (i + 2).toNatClampNeg), .int (xs (i + 3).toNatClampNeg), .int (xs (i + 4).toNatClampNeg), .int (xs (i + 5).toNatClampNeg)] m0 (some (.long r), m1)) (hR2 : am_Rn ext 400 173 [.ref 42, .int (xs (i + 1).toNatClampNeg), .int (xs (i + 2).toNatClampNeg), .int (xs (i + 3).toNatClampNeg), .int (xs (i + 4).toNatClampNeg), .int (xs (i + 5).toNatClampNeg)] m1 (some (.long r), m2)) (k : lw_W p l e s m b below meth c Q D cy ad (836, [some (.ref 82), some (.ref 0), some (.ref 42), some (.ref 81), some (.int i), none, none, none], [], m2)) : lw_W p l e s m b below meth c Q D cy ad (318, [some (.ref 82), some (.ref 0), some (.ref 42), some (.ref 81), some (.int i), none, none, none], [], m0) := by
  refine lw_b C (x' := (324, [some (.ref 82), some (.ref 0), some (.ref 42), some (.ref 81), some (.int i), none, none, none], [.int (i + 1), .ref 82, .ref 0], m0)) 5 rfl ?_
  refine lw_s C rfl h1 ?_
  refine lw_b C (x' := (330, [some (.ref 82), some (.ref 0), some (.ref 42), some (.ref 81), some (.int i), none, none, none], [.int (i + 2), .ref 82, .int (xs (i + 1).toNatClampNeg), .ref 0], m0)) 4 rfl ?_
  refine lw_s C rfl h2 ?_
  refine lw_b C (x' := (336, [some (.ref 82), some (.ref 0), some (.ref 42), some (.ref 81), some (.int i), none, none, none], [.int (i + 3), .ref 82, .int (xs (i + 2).toNatClampNeg), .int (xs (i + 1).toNatClampNeg), .ref 0], m0)) 4 rfl ?_
  refine lw_s C rfl h3 ?_
  refine lw_b C (x' := (342, [some (.ref 82), some (.ref 0), some (.ref 42), some (.ref 81), some (.int i), none, none, none], [.int (i + 4), .ref 82, .int (xs (i + 3).toNatClampNeg), .int (xs (i + 2).toNatClampNeg), .int (xs (i + 1).toNatClampNeg), .ref 0], m0)) 4 rfl ?_
  refine lw_s C rfl h4 ?_
  refine lw_b C (x' := (348, [some (.ref 82), some (.ref 0), some (.ref 42), some (.ref 81), some (.int i), none, none, none], [.int (i + 5), .ref 82, .int (xs (i + 4).toNatClampNeg), .int (xs (i + 3).toNatClampNeg), .int (xs (i + 2).toNatClampNeg), .int (xs (i + 1).toNatClampNeg), .ref 0], m0)) 4 rfl ?_
  refine lw_s C rfl h5 ?_
  refine lw_c C (as := [.ref 0, .int (xs (i + 1).toNatClampNeg), .int (xs (i + 2).toNatClampNeg), .int (xs (i + 3).toNatClampNeg), .int (xs (i + 4).toNatClampNeg), .int (xs (i + 5).toNatClampNeg)]) rfl rfl rfl hR1 ?_
  show lw_W p l e s m b below meth c Q D cy ad (352, [some (.ref 82), some (.ref 0), some (.ref 42), some (.ref 81), some (.int i), none, none, none], [.long r], m1)
  refine lw_b C (x' := (358, [some (.ref 82), some (.ref 0), some (.ref 42), some (.ref 81), some (.int i), none, none, none], [.int (i + 1), .ref 82, .ref 42, .long r], m1)) 5 rfl ?_
  refine lw_s C rfl h1 ?_
  refine lw_b C (x' := (364, [some (.ref 82), some (.ref 0), some (.ref 42), some (.ref 81), some (.int i), none, none, none], [.int (i + 2), .ref 82, .int (xs (i + 1).toNatClampNeg), .ref 42, .long r], m1)) 4 rfl ?_
  refine lw_s C rfl h2 ?_
  refine lw_b C (x' := (370, [some (.ref 82), some (.ref 0), some (.ref 42), some (.ref 81), some (.int i), none, none, none], [.int (i + 3), .ref 82, .int (xs (i + 2).toNatClampNeg), .int (xs (i + 1).toNatClampNeg), .ref 42, .long r], m1)) 4 rfl ?_
  refine lw_s C rfl h3 ?_
  refine lw_b C (x' := (376, [some (.ref 82), some (.ref 0), some (.ref 42), some (.ref 81), some (.int i), none, none, none], [.int (i + 4), .ref 82, .int (xs (i + 3).toNatClampNeg), .int (xs (i + 2).toNatClampNeg), .int (xs (i + 1).toNatClampNeg), .ref 42, .long r], m1)) 4 rfl ?_
  refine lw_s C rfl h4 ?_
  refine lw_b C (x' := (382, [some (.ref 82), some (.ref 0), some (.ref 42), some (.ref 81), some (.int i), none, none, none], [.int (i + 5), .ref 82, .int (xs (i + 4).toNatClampNeg), .int (xs (i + 3).toNatClampNeg), .int (xs (i + 2).toNatClampNeg), .int (xs (i + 1).toNatClampNeg), .ref 42, .long r], m1)) 4 rfl ?_
  refine lw_s C rfl h5 ?_
  refine lw_c C (as := [.ref 42, .int (xs (i + 1).toNatClampNeg), .int (xs (i + 2).toNatClampNeg), .int (xs (i + 3).toNatClampNeg), .int (xs (i + 4).toNatClampNeg), .int (xs (i + 5).toNatClampNeg)]) rfl rfl rfl hR2 ?_
  show lw_W p l e s m b below meth c Q D cy ad (386, [some (.ref 82), some (.ref 0), some (.ref 42), some (.ref 81), some (.int i), none, none, none], [.long r, .long r], m2)
  refine lw_eql C rfl rfl ?_
  exact k
set_option maxRecDepth 100000 in
theorem lwc_6 (C : lw_Cx p l s m c D cy ad b Ln xs ext Ex) (i : Int32) (h1 : vp_in (i + 1) Ln) (h2 : vp_in (i + 2) Ln) (h3 : vp_in (i + 3) Ln) {r : Int64} {m0 m1 m2 : am_M} (hR1 : am_Rn ext 400 100 [.ref 0, .int (xs (i + 1).toNatClampNeg), .int (xs (i + 2).toNatClampNeg), .int (xs (i + 3).toNatClampNeg)] m0 (some (.long r), m1)) (hR2 : am_Rn ext 400 174 [.ref 42, .int (xs (i + 1).toNatClampNeg), .int (xs (i + 2).toNatClampNeg), .int (xs (i + 3).toNatClampNeg)] m1 (some (.long r), m2)) (k : lw_W p l e s m b below meth c Q D cy ad (836, [some (.ref 82), some (.ref 0), some (.ref 42), some (.ref 81), some (.int i), none, none, none], [], m2)) : lw_W p l e s m b below meth c Q D cy ad (392, [some (.ref 82), some (.ref 0), some (.ref 42), some (.ref 81), some (.int i), none, none, none], [], m0) := by
  refine lw_b C (x' := (398, [some (.ref 82), some (.ref 0), some (.ref 42), some (.ref 81), some (.int i), none, none, none], [.int (i + 1), .ref 82, .ref 0], m0)) 5 rfl ?_
  refine lw_s C rfl h1 ?_
  refine lw_b C (x' := (404, [some (.ref 82), some (.ref 0), some (.ref 42), some (.ref 81), some (.int i), none, none, none], [.int (i + 2), .ref 82, .int (xs (i + 1).toNatClampNeg), .ref 0], m0)) 4 rfl ?_
  refine lw_s C rfl h2 ?_
  refine lw_b C (x' := (410, [some (.ref 82), some (.ref 0), some (.ref 42), some (.ref 81), some (.int i), none, none, none], [.int (i + 3), .ref 82, .int (xs (i + 2).toNatClampNeg), .int (xs (i + 1).toNatClampNeg), .ref 0], m0)) 4 rfl ?_
  refine lw_s C rfl h3 ?_
  refine lw_c C (as := [.ref 0, .int (xs (i + 1).toNatClampNeg), .int (xs (i + 2).toNatClampNeg), .int (xs (i + 3).toNatClampNeg)]) rfl rfl rfl hR1 ?_
  show lw_W p l e s m b below meth c Q D cy ad (414, [some (.ref 82), some (.ref 0), some (.ref 42), some (.ref 81), some (.int i), none, none, none], [.long r], m1)
  refine lw_b C (x' := (420, [some (.ref 82), some (.ref 0), some (.ref 42), some (.ref 81), some (.int i), none, none, none], [.int (i + 1), .ref 82, .ref 42, .long r], m1)) 5 rfl ?_
  refine lw_s C rfl h1 ?_
  refine lw_b C (x' := (426, [some (.ref 82), some (.ref 0), some (.ref 42), some (.ref 81), some (.int i), none, none, none], [.int (i + 2), .ref 82, .int (xs (i + 1).toNatClampNeg), .ref 42, .long r], m1)) 4 rfl ?_
  refine lw_s C rfl h2 ?_
  refine lw_b C (x' := (432, [some (.ref 82), some (.ref 0), some (.ref 42), some (.ref 81), some (.int i), none, none, none], [.int (i + 3), .ref 82, .int (xs (i + 2).toNatClampNeg), .int (xs (i + 1).toNatClampNeg), .ref 42, .long r], m1)) 4 rfl ?_
  refine lw_s C rfl h3 ?_
  refine lw_c C (as := [.ref 42, .int (xs (i + 1).toNatClampNeg), .int (xs (i + 2).toNatClampNeg), .int (xs (i + 3).toNatClampNeg)]) rfl rfl rfl hR2 ?_
  show lw_W p l e s m b below meth c Q D cy ad (436, [some (.ref 82), some (.ref 0), some (.ref 42), some (.ref 81), some (.int i), none, none, none], [.long r, .long r], m2)
  refine lw_eql C rfl rfl ?_
  exact k
set_option maxRecDepth 100000 in
theorem lwc_7 (C : lw_Cx p l s m c D cy ad b Ln xs ext Ex) (i : Int32) (h1 : vp_in (i + 1) Ln) {r : Int32} {m0 m1 m2 : am_M} (hR1 : am_Rn ext 400 101 [.ref 0, .int (xs (i + 1).toNatClampNeg)] m0 (some (.int r), m1)) (hR2 : am_Rn ext 400 175 [.ref 42, .int (xs (i + 1).toNatClampNeg)] m1 (some (.int r), m2)) (k : lw_W p l e s m b below meth c Q D cy ad (836, [some (.ref 82), some (.ref 0), some (.ref 42), some (.ref 81), some (.int i), none, none, none], [], m2)) : lw_W p l e s m b below meth c Q D cy ad (442, [some (.ref 82), some (.ref 0), some (.ref 42), some (.ref 81), some (.int i), none, none, none], [], m0) := by
  refine lw_b C (x' := (448, [some (.ref 82), some (.ref 0), some (.ref 42), some (.ref 81), some (.int i), none, none, none], [.int (i + 1), .ref 82, .ref 0], m0)) 5 rfl ?_
  refine lw_s C rfl h1 ?_
  refine lw_c C (as := [.ref 0, .int (xs (i + 1).toNatClampNeg)]) rfl rfl rfl hR1 ?_
  show lw_W p l e s m b below meth c Q D cy ad (452, [some (.ref 82), some (.ref 0), some (.ref 42), some (.ref 81), some (.int i), none, none, none], [.int r], m1)
  refine lw_b C (x' := (458, [some (.ref 82), some (.ref 0), some (.ref 42), some (.ref 81), some (.int i), none, none, none], [.int (i + 1), .ref 82, .ref 42, .int r], m1)) 5 rfl ?_
  refine lw_s C rfl h1 ?_
  refine lw_c C (as := [.ref 42, .int (xs (i + 1).toNatClampNeg)]) rfl rfl rfl hR2 ?_
  show lw_W p l e s m b below meth c Q D cy ad (462, [some (.ref 82), some (.ref 0), some (.ref 42), some (.ref 81), some (.int i), none, none, none], [.int r, .int r], m2)
  refine lw_eqi C rfl ?_
  exact k
set_option maxRecDepth 100000 in
theorem lwc_8 (C : lw_Cx p l s m c D cy ad b Ln xs ext Ex) (i : Int32) (h1 : vp_in (i + 1) Ln) (h2 : vp_in (i + 2) Ln) {r : Int64} {m0 m1 m2 : am_M} (hR1 : am_Rn ext 400 102 [.ref 0, .int (xs (i + 1).toNatClampNeg), .int (xs (i + 2).toNatClampNeg)] m0 (some (.long r), m1)) (hR2 : am_Rn ext 400 181 [.ref 42, .int (xs (i + 1).toNatClampNeg), .int (xs (i + 2).toNatClampNeg)] m1 (some (.long r), m2)) (k : lw_W p l e s m b below meth c Q D cy ad (836, [some (.ref 82), some (.ref 0), some (.ref 42), some (.ref 81), some (.int i), none, none, none], [], m2)) : lw_W p l e s m b below meth c Q D cy ad (467, [some (.ref 82), some (.ref 0), some (.ref 42), some (.ref 81), some (.int i), none, none, none], [], m0) := by
  refine lw_b C (x' := (473, [some (.ref 82), some (.ref 0), some (.ref 42), some (.ref 81), some (.int i), none, none, none], [.int (i + 1), .ref 82, .ref 0], m0)) 5 rfl ?_
  refine lw_s C rfl h1 ?_
  refine lw_b C (x' := (479, [some (.ref 82), some (.ref 0), some (.ref 42), some (.ref 81), some (.int i), none, none, none], [.int (i + 2), .ref 82, .int (xs (i + 1).toNatClampNeg), .ref 0], m0)) 4 rfl ?_
  refine lw_s C rfl h2 ?_
  refine lw_c C (as := [.ref 0, .int (xs (i + 1).toNatClampNeg), .int (xs (i + 2).toNatClampNeg)]) rfl rfl rfl hR1 ?_
  show lw_W p l e s m b below meth c Q D cy ad (483, [some (.ref 82), some (.ref 0), some (.ref 42), some (.ref 81), some (.int i), none, none, none], [.long r], m1)
  refine lw_b C (x' := (489, [some (.ref 82), some (.ref 0), some (.ref 42), some (.ref 81), some (.int i), none, none, none], [.int (i + 1), .ref 82, .ref 42, .long r], m1)) 5 rfl ?_
  refine lw_s C rfl h1 ?_
  refine lw_b C (x' := (495, [some (.ref 82), some (.ref 0), some (.ref 42), some (.ref 81), some (.int i), none, none, none], [.int (i + 2), .ref 82, .int (xs (i + 1).toNatClampNeg), .ref 42, .long r], m1)) 4 rfl ?_
  refine lw_s C rfl h2 ?_
  refine lw_c C (as := [.ref 42, .int (xs (i + 1).toNatClampNeg), .int (xs (i + 2).toNatClampNeg)]) rfl rfl rfl hR2 ?_
  show lw_W p l e s m b below meth c Q D cy ad (499, [some (.ref 82), some (.ref 0), some (.ref 42), some (.ref 81), some (.int i), none, none, none], [.long r, .long r], m2)
  refine lw_eql C rfl rfl ?_
  exact k
set_option maxRecDepth 100000 in
theorem lwc_9 (C : lw_Cx p l s m c D cy ad b Ln xs ext Ex) (i : Int32) (h1 : vp_in (i + 1) Ln) (h2 : vp_in (i + 2) Ln) {r : Int32} {m0 m1 m2 : am_M} (hR1 : am_Rn ext 400 103 [.ref 0, .int (xs (i + 1).toNatClampNeg), .int (xs (i + 2).toNatClampNeg)] m0 (some (.int r), m1)) (hR2 : am_Rn ext 400 182 [.ref 42, .int (xs (i + 1).toNatClampNeg), .int (xs (i + 2).toNatClampNeg)] m1 (some (.int r), m2)) (k : lw_W p l e s m b below meth c Q D cy ad (836, [some (.ref 82), some (.ref 0), some (.ref 42), some (.ref 81), some (.int i), none, none, none], [], m2)) : lw_W p l e s m b below meth c Q D cy ad (505, [some (.ref 82), some (.ref 0), some (.ref 42), some (.ref 81), some (.int i), none, none, none], [], m0) := by
  refine lw_b C (x' := (511, [some (.ref 82), some (.ref 0), some (.ref 42), some (.ref 81), some (.int i), none, none, none], [.int (i + 1), .ref 82, .ref 0], m0)) 5 rfl ?_
  refine lw_s C rfl h1 ?_
  refine lw_b C (x' := (517, [some (.ref 82), some (.ref 0), some (.ref 42), some (.ref 81), some (.int i), none, none, none], [.int (i + 2), .ref 82, .int (xs (i + 1).toNatClampNeg), .ref 0], m0)) 4 rfl ?_
  refine lw_s C rfl h2 ?_
  refine lw_c C (as := [.ref 0, .int (xs (i + 1).toNatClampNeg), .int (xs (i + 2).toNatClampNeg)]) rfl rfl rfl hR1 ?_
  show lw_W p l e s m b below meth c Q D cy ad (521, [some (.ref 82), some (.ref 0), some (.ref 42), some (.ref 81), some (.int i), none, none, none], [.int r], m1)
  refine lw_b C (x' := (527, [some (.ref 82), some (.ref 0), some (.ref 42), some (.ref 81), some (.int i), none, none, none], [.int (i + 1), .ref 82, .ref 42, .int r], m1)) 5 rfl ?_
  refine lw_s C rfl h1 ?_
  refine lw_b C (x' := (533, [some (.ref 82), some (.ref 0), some (.ref 42), some (.ref 81), some (.int i), none, none, none], [.int (i + 2), .ref 82, .int (xs (i + 1).toNatClampNeg), .ref 42, .int r], m1)) 4 rfl ?_
  refine lw_s C rfl h2 ?_
  refine lw_c C (as := [.ref 42, .int (xs (i + 1).toNatClampNeg), .int (xs (i + 2).toNatClampNeg)]) rfl rfl rfl hR2 ?_
  show lw_W p l e s m b below meth c Q D cy ad (537, [some (.ref 82), some (.ref 0), some (.ref 42), some (.ref 81), some (.int i), none, none, none], [.int r, .int r], m2)
  refine lw_eqi C rfl ?_
  exact k
set_option maxRecDepth 100000 in
theorem lwc_10 (C : lw_Cx p l s m c D cy ad b Ln xs ext Ex) (i : Int32) (h1 : vp_in (i + 1) Ln) (h2 : vp_in (i + 2) Ln) (h3 : vp_in (i + 3) Ln) {r : Int32} {m0 m1 m2 : am_M} (hR1 : am_Rn ext 400 105 [.ref 0, .int (xs (i + 1).toNatClampNeg), .int (xs (i + 2).toNatClampNeg), .int (xs (i + 3).toNatClampNeg)] m0 (some (.int r), m1)) (hR2 : am_Rn ext 400 183 [.ref 42, .int (xs (i + 1).toNatClampNeg), .int (xs (i + 2).toNatClampNeg), .int (xs (i + 3).toNatClampNeg)] m1 (some (.int r), m2)) (k : lw_W p l e s m b below meth c Q D cy ad (836, [some (.ref 82), some (.ref 0), some (.ref 42), some (.ref 81), some (.int i), none, none, none], [], m2)) : lw_W p l e s m b below meth c Q D cy ad (542, [some (.ref 82), some (.ref 0), some (.ref 42), some (.ref 81), some (.int i), none, none, none], [], m0) := by
  refine lw_b C (x' := (548, [some (.ref 82), some (.ref 0), some (.ref 42), some (.ref 81), some (.int i), none, none, none], [.int (i + 1), .ref 82, .ref 0], m0)) 5 rfl ?_
  refine lw_s C rfl h1 ?_
  refine lw_b C (x' := (554, [some (.ref 82), some (.ref 0), some (.ref 42), some (.ref 81), some (.int i), none, none, none], [.int (i + 2), .ref 82, .int (xs (i + 1).toNatClampNeg), .ref 0], m0)) 4 rfl ?_
  refine lw_s C rfl h2 ?_
  refine lw_b C (x' := (560, [some (.ref 82), some (.ref 0), some (.ref 42), some (.ref 81), some (.int i), none, none, none], [.int (i + 3), .ref 82, .int (xs (i + 2).toNatClampNeg), .int (xs (i + 1).toNatClampNeg), .ref 0], m0)) 4 rfl ?_
  refine lw_s C rfl h3 ?_
  refine lw_c C (as := [.ref 0, .int (xs (i + 1).toNatClampNeg), .int (xs (i + 2).toNatClampNeg), .int (xs (i + 3).toNatClampNeg)]) rfl rfl rfl hR1 ?_
  show lw_W p l e s m b below meth c Q D cy ad (564, [some (.ref 82), some (.ref 0), some (.ref 42), some (.ref 81), some (.int i), none, none, none], [.int r], m1)
  refine lw_b C (x' := (570, [some (.ref 82), some (.ref 0), some (.ref 42), some (.ref 81), some (.int i), none, none, none], [.int (i + 1), .ref 82, .ref 42, .int r], m1)) 5 rfl ?_
  refine lw_s C rfl h1 ?_
  refine lw_b C (x' := (576, [some (.ref 82), some (.ref 0), some (.ref 42), some (.ref 81), some (.int i), none, none, none], [.int (i + 2), .ref 82, .int (xs (i + 1).toNatClampNeg), .ref 42, .int r], m1)) 4 rfl ?_
  refine lw_s C rfl h2 ?_
  refine lw_b C (x' := (582, [some (.ref 82), some (.ref 0), some (.ref 42), some (.ref 81), some (.int i), none, none, none], [.int (i + 3), .ref 82, .int (xs (i + 2).toNatClampNeg), .int (xs (i + 1).toNatClampNeg), .ref 42, .int r], m1)) 4 rfl ?_
  refine lw_s C rfl h3 ?_
  refine lw_c C (as := [.ref 42, .int (xs (i + 1).toNatClampNeg), .int (xs (i + 2).toNatClampNeg), .int (xs (i + 3).toNatClampNeg)]) rfl rfl rfl hR2 ?_
  show lw_W p l e s m b below meth c Q D cy ad (586, [some (.ref 82), some (.ref 0), some (.ref 42), some (.ref 81), some (.int i), none, none, none], [.int r, .int r], m2)
  refine lw_eqi C rfl ?_
  exact k
set_option maxRecDepth 100000 in
theorem lwc_11 (C : lw_Cx p l s m c D cy ad b Ln xs ext Ex) (i : Int32) (h1 : vp_in (i + 1) Ln) (h2 : vp_in (i + 2) Ln) (h3 : vp_in (i + 3) Ln) {r : Int32} {m0 m1 m2 : am_M} (hR1 : am_Rn ext 400 106 [.ref 0, .int (xs (i + 1).toNatClampNeg), .int (xs (i + 2).toNatClampNeg), .int (xs (i + 3).toNatClampNeg)] m0 (some (.int r), m1)) (hR2 : am_Rn ext 400 186 [.ref 42, .int (xs (i + 1).toNatClampNeg), .int (xs (i + 2).toNatClampNeg), .int (xs (i + 3).toNatClampNeg)] m1 (some (.int r), m2)) (k : lw_W p l e s m b below meth c Q D cy ad (836, [some (.ref 82), some (.ref 0), some (.ref 42), some (.ref 81), some (.int i), none, none, none], [], m2)) : lw_W p l e s m b below meth c Q D cy ad (591, [some (.ref 82), some (.ref 0), some (.ref 42), some (.ref 81), some (.int i), none, none, none], [], m0) := by
  refine lw_b C (x' := (597, [some (.ref 82), some (.ref 0), some (.ref 42), some (.ref 81), some (.int i), none, none, none], [.int (i + 1), .ref 82, .ref 0], m0)) 5 rfl ?_
  refine lw_s C rfl h1 ?_
  refine lw_b C (x' := (603, [some (.ref 82), some (.ref 0), some (.ref 42), some (.ref 81), some (.int i), none, none, none], [.int (i + 2), .ref 82, .int (xs (i + 1).toNatClampNeg), .ref 0], m0)) 4 rfl ?_
  refine lw_s C rfl h2 ?_
  refine lw_b C (x' := (609, [some (.ref 82), some (.ref 0), some (.ref 42), some (.ref 81), some (.int i), none, none, none], [.int (i + 3), .ref 82, .int (xs (i + 2).toNatClampNeg), .int (xs (i + 1).toNatClampNeg), .ref 0], m0)) 4 rfl ?_
  refine lw_s C rfl h3 ?_
  refine lw_c C (as := [.ref 0, .int (xs (i + 1).toNatClampNeg), .int (xs (i + 2).toNatClampNeg), .int (xs (i + 3).toNatClampNeg)]) rfl rfl rfl hR1 ?_
  show lw_W p l e s m b below meth c Q D cy ad (613, [some (.ref 82), some (.ref 0), some (.ref 42), some (.ref 81), some (.int i), none, none, none], [.int r], m1)
  refine lw_b C (x' := (619, [some (.ref 82), some (.ref 0), some (.ref 42), some (.ref 81), some (.int i), none, none, none], [.int (i + 1), .ref 82, .ref 42, .int r], m1)) 5 rfl ?_
  refine lw_s C rfl h1 ?_
  refine lw_b C (x' := (625, [some (.ref 82), some (.ref 0), some (.ref 42), some (.ref 81), some (.int i), none, none, none], [.int (i + 2), .ref 82, .int (xs (i + 1).toNatClampNeg), .ref 42, .int r], m1)) 4 rfl ?_
  refine lw_s C rfl h2 ?_
  refine lw_b C (x' := (631, [some (.ref 82), some (.ref 0), some (.ref 42), some (.ref 81), some (.int i), none, none, none], [.int (i + 3), .ref 82, .int (xs (i + 2).toNatClampNeg), .int (xs (i + 1).toNatClampNeg), .ref 42, .int r], m1)) 4 rfl ?_
  refine lw_s C rfl h3 ?_
  refine lw_c C (as := [.ref 42, .int (xs (i + 1).toNatClampNeg), .int (xs (i + 2).toNatClampNeg), .int (xs (i + 3).toNatClampNeg)]) rfl rfl rfl hR2 ?_
  show lw_W p l e s m b below meth c Q D cy ad (635, [some (.ref 82), some (.ref 0), some (.ref 42), some (.ref 81), some (.int i), none, none, none], [.int r, .int r], m2)
  refine lw_eqi C rfl ?_
  exact k
set_option maxRecDepth 100000 in
theorem lwc_12 (C : lw_Cx p l s m c D cy ad b Ln xs ext Ex) (i : Int32) (h1 : vp_in (i + 1) Ln) (h2 : vp_in (i + 2) Ln) (h3 : vp_in (i + 3) Ln) (h4 : vp_in (i + 4) Ln) (h5 : vp_in (i + 5) Ln) {r : Int32} {m0 m1 m2 : am_M} (hR1 : am_Rn ext 400 107 [.ref 0, .int (xs (i + 1).toNatClampNeg), .int (xs (i + 2).toNatClampNeg), .int (xs (i + 3).toNatClampNeg), .int (xs (i + 4).toNatClampNeg), .int (xs (i + 5).toNatClampNeg)] m0 (some (.int r), m1)) (hR2 : am_Rn ext 400 187 [.ref 42, .int (xs (i + 1).toNatClampNeg), .int (xs (i + 2).toNatClampNeg), .int (xs (i + 3).toNatClampNeg), .int (xs (i + 4).toNatClampNeg), .int (xs (i + 5).toNatClampNeg)] m1 (some (.int r), m2)) (k : lw_W p l e s m b below meth c Q D cy ad (836, [some (.ref 82), some (.ref 0), some (.ref 42), some (.ref 81), some (.int i), none, none, none], [], m2)) : lw_W p l e s m b below meth c Q D cy ad (640, [some (.ref 82), some (.ref 0), some (.ref 42), some (.ref 81), some (.int i), none, none, none], [], m0) := by
  refine lw_b C (x' := (646, [some (.ref 82), some (.ref 0), some (.ref 42), some (.ref 81), some (.int i), none, none, none], [.int (i + 1), .ref 82, .ref 0], m0)) 5 rfl ?_
  refine lw_s C rfl h1 ?_
  refine lw_b C (x' := (652, [some (.ref 82), some (.ref 0), some (.ref 42), some (.ref 81), some (.int i), none, none, none], [.int (i + 2), .ref 82, .int (xs (i + 1).toNatClampNeg), .ref 0], m0)) 4 rfl ?_
  refine lw_s C rfl h2 ?_
  refine lw_b C (x' := (658, [some (.ref 82), some (.ref 0), some (.ref 42), some (.ref 81), some (.int i), none, none, none], [.int (i + 3), .ref 82, .int (xs (i + 2).toNatClampNeg), .int (xs (i + 1).toNatClampNeg), .ref 0], m0)) 4 rfl ?_
  refine lw_s C rfl h3 ?_
  refine lw_b C (x' := (664, [some (.ref 82), some (.ref 0), some (.ref 42), some (.ref 81), some (.int i), none, none, none], [.int (i + 4), .ref 82, .int (xs (i + 3).toNatClampNeg), .int (xs (i + 2).toNatClampNeg), .int (xs (i + 1).toNatClampNeg), .ref 0], m0)) 4 rfl ?_
  refine lw_s C rfl h4 ?_
  refine lw_b C (x' := (670, [some (.ref 82), some (.ref 0), some (.ref 42), some (.ref 81), some (.int i), none, none, none], [.int (i + 5), .ref 82, .int (xs (i + 4).toNatClampNeg), .int (xs (i + 3).toNatClampNeg), .int (xs (i + 2).toNatClampNeg), .int (xs (i + 1).toNatClampNeg), .ref 0], m0)) 4 rfl ?_
  refine lw_s C rfl h5 ?_
  refine lw_c C (as := [.ref 0, .int (xs (i + 1).toNatClampNeg), .int (xs (i + 2).toNatClampNeg), .int (xs (i + 3).toNatClampNeg), .int (xs (i + 4).toNatClampNeg), .int (xs (i + 5).toNatClampNeg)]) rfl rfl rfl hR1 ?_
  show lw_W p l e s m b below meth c Q D cy ad (674, [some (.ref 82), some (.ref 0), some (.ref 42), some (.ref 81), some (.int i), none, none, none], [.int r], m1)
  refine lw_b C (x' := (680, [some (.ref 82), some (.ref 0), some (.ref 42), some (.ref 81), some (.int i), none, none, none], [.int (i + 1), .ref 82, .ref 42, .int r], m1)) 5 rfl ?_
  refine lw_s C rfl h1 ?_
  refine lw_b C (x' := (686, [some (.ref 82), some (.ref 0), some (.ref 42), some (.ref 81), some (.int i), none, none, none], [.int (i + 2), .ref 82, .int (xs (i + 1).toNatClampNeg), .ref 42, .int r], m1)) 4 rfl ?_
  refine lw_s C rfl h2 ?_
  refine lw_b C (x' := (692, [some (.ref 82), some (.ref 0), some (.ref 42), some (.ref 81), some (.int i), none, none, none], [.int (i + 3), .ref 82, .int (xs (i + 2).toNatClampNeg), .int (xs (i + 1).toNatClampNeg), .ref 42, .int r], m1)) 4 rfl ?_
  refine lw_s C rfl h3 ?_
  refine lw_b C (x' := (698, [some (.ref 82), some (.ref 0), some (.ref 42), some (.ref 81), some (.int i), none, none, none], [.int (i + 4), .ref 82, .int (xs (i + 3).toNatClampNeg), .int (xs (i + 2).toNatClampNeg), .int (xs (i + 1).toNatClampNeg), .ref 42, .int r], m1)) 4 rfl ?_
  refine lw_s C rfl h4 ?_
  refine lw_b C (x' := (704, [some (.ref 82), some (.ref 0), some (.ref 42), some (.ref 81), some (.int i), none, none, none], [.int (i + 5), .ref 82, .int (xs (i + 4).toNatClampNeg), .int (xs (i + 3).toNatClampNeg), .int (xs (i + 2).toNatClampNeg), .int (xs (i + 1).toNatClampNeg), .ref 42, .int r], m1)) 4 rfl ?_
  refine lw_s C rfl h5 ?_
  refine lw_c C (as := [.ref 42, .int (xs (i + 1).toNatClampNeg), .int (xs (i + 2).toNatClampNeg), .int (xs (i + 3).toNatClampNeg), .int (xs (i + 4).toNatClampNeg), .int (xs (i + 5).toNatClampNeg)]) rfl rfl rfl hR2 ?_
  show lw_W p l e s m b below meth c Q D cy ad (708, [some (.ref 82), some (.ref 0), some (.ref 42), some (.ref 81), some (.int i), none, none, none], [.int r, .int r], m2)
  refine lw_eqi C rfl ?_
  exact k
set_option maxRecDepth 100000 in
theorem lwc_14 (C : lw_Cx p l s m c D cy ad b Ln xs ext Ex) (i : Int32) (h1 : vp_in (i + 1) Ln) {r : Int32} {m0 m1 m2 : am_M} (hR1 : am_Rn ext 400 109 [.ref 0, .int (xs (i + 1).toNatClampNeg)] m0 (some (.int r), m1)) (hR2 : am_Rn ext 400 199 [.ref 42, .int (xs (i + 1).toNatClampNeg)] m1 (some (.int r), m2)) (k : lw_W p l e s m b below meth c Q D cy ad (836, [some (.ref 82), some (.ref 0), some (.ref 42), some (.ref 81), some (.int i), none, none, none], [], m2)) : lw_W p l e s m b below meth c Q D cy ad (786, [some (.ref 82), some (.ref 0), some (.ref 42), some (.ref 81), some (.int i), none, none, none], [], m0) := by
  refine lw_b C (x' := (792, [some (.ref 82), some (.ref 0), some (.ref 42), some (.ref 81), some (.int i), none, none, none], [.int (i + 1), .ref 82, .ref 0], m0)) 5 rfl ?_
  refine lw_s C rfl h1 ?_
  refine lw_c C (as := [.ref 0, .int (xs (i + 1).toNatClampNeg)]) rfl rfl rfl hR1 ?_
  show lw_W p l e s m b below meth c Q D cy ad (796, [some (.ref 82), some (.ref 0), some (.ref 42), some (.ref 81), some (.int i), none, none, none], [.int r], m1)
  refine lw_b C (x' := (802, [some (.ref 82), some (.ref 0), some (.ref 42), some (.ref 81), some (.int i), none, none, none], [.int (i + 1), .ref 82, .ref 42, .int r], m1)) 5 rfl ?_
  refine lw_s C rfl h1 ?_
  refine lw_c C (as := [.ref 42, .int (xs (i + 1).toNatClampNeg)]) rfl rfl rfl hR2 ?_
  show lw_W p l e s m b below meth c Q D cy ad (806, [some (.ref 82), some (.ref 0), some (.ref 42), some (.ref 81), some (.int i), none, none, none], [.int r, .int r], m2)
  refine lw_eqi C rfl ?_
  exact k
set_option maxRecDepth 100000 in
theorem lwc_15 (C : lw_Cx p l s m c D cy ad b Ln xs ext Ex) (i : Int32) (h1 : vp_in (i + 1) Ln) {r : Int32} {m0 m1 m2 : am_M} (hR1 : am_Rn ext 400 110 [.ref 0, .int (xs (i + 1).toNatClampNeg)] m0 (some (.int r), m1)) (hR2 : am_Rn ext 400 200 [.ref 42, .int (xs (i + 1).toNatClampNeg)] m1 (some (.int r), m2)) (k : lw_W p l e s m b below meth c Q D cy ad (836, [some (.ref 82), some (.ref 0), some (.ref 42), some (.ref 81), some (.int i), none, none, none], [], m2)) : lw_W p l e s m b below meth c Q D cy ad (811, [some (.ref 82), some (.ref 0), some (.ref 42), some (.ref 81), some (.int i), none, none, none], [], m0) := by
  refine lw_b C (x' := (817, [some (.ref 82), some (.ref 0), some (.ref 42), some (.ref 81), some (.int i), none, none, none], [.int (i + 1), .ref 82, .ref 0], m0)) 5 rfl ?_
  refine lw_s C rfl h1 ?_
  refine lw_c C (as := [.ref 0, .int (xs (i + 1).toNatClampNeg)]) rfl rfl rfl hR1 ?_
  show lw_W p l e s m b below meth c Q D cy ad (821, [some (.ref 82), some (.ref 0), some (.ref 42), some (.ref 81), some (.int i), none, none, none], [.int r], m1)
  refine lw_b C (x' := (827, [some (.ref 82), some (.ref 0), some (.ref 42), some (.ref 81), some (.int i), none, none, none], [.int (i + 1), .ref 82, .ref 42, .int r], m1)) 5 rfl ?_
  refine lw_s C rfl h1 ?_
  refine lw_c C (as := [.ref 42, .int (xs (i + 1).toNatClampNeg)]) rfl rfl rfl hR2 ?_
  show lw_W p l e s m b below meth c Q D cy ad (831, [some (.ref 82), some (.ref 0), some (.ref 42), some (.ref 81), some (.int i), none, none, none], [.int r, .int r], m2)
  refine lw_eqi C rfl ?_
  exact k
end LAWC
