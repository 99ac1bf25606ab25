/-! THE LAW over both systems -/
def DL_law_0 : List (Nat × Instr × Nat) := [(0, .new 7, 3), (3, .dup, 1), (4, .invokespecial 9, 3), (7, .astore_n 1, 1), (8, .new 10, 3), (11, .dup, 1), (12, .invokespecial 12, 3), (15, .astore_n 2, 1), (16, .iconst 0, 1), (17, .istore_n 3, 1), (18, .iload_n 3, 1), (19, .aload_n 0, 1), (20, .arraylength, 1), (21, .bipush 6, 2), (23, .isub, 1), (24, .if_icmp .gt 1142, 3), (27, .aload_n 0, 1), (28, .iload_n 3, 1), (29, .iaload, 1), (30, .bipush 31, 2), (32, .iand, 1), (33, .tableswitch 1127 0 29 #[135, 198, 221, 234, 247, 290, 333, 392, 451, 484, 497, 520, 533, 566, 619, 642, 675, 718, 751, 774, 797, 840, 893, 916, 969, 1012, 1025, 1058, 1081, 1104], 135), (168, .aload_n 1, 1), (169, .aload_n 0, 1), (170, .iload_n 3, 1), (171, .iconst 1, 1), (172, .iadd, 1), (173, .iaload, 1), (174, .aload_n 0, 1), (175, .iload_n 3, 1), (176, .iconst 2, 1), (177, .iadd, 1), (178, .iaload, 1), (179, .aload_n 0, 1), (180, .iload_n 3, 1), (181, .iconst 3, 1), (182, .iadd, 1), (183, .iaload, 1), (184, .aload_n 0, 1), (185, .iload_n 3, 1)]
set_option maxRecDepth 100000 in
set_option maxHeartbeats 4000000 in
theorem dec_law_0 : dcs code DL_law_0 = true := by decide +kernel
def DL_law_1 : List (Nat × Instr × Nat) := [(186, .iconst 4, 1), (187, .iadd, 1), (188, .iaload, 1), (189, .aload_n 0, 1), (190, .iload_n 3, 1), (191, .iconst 5, 1), (192, .iadd, 1), (193, .iaload, 1), (194, .invokevirtual 13, 3), (197, .aload_n 2, 1), (198, .aload_n 0, 1), (199, .iload_n 3, 1), (200, .iconst 1, 1), (201, .iadd, 1), (202, .iaload, 1), (203, .aload_n 0, 1), (204, .iload_n 3, 1), (205, .iconst 2, 1), (206, .iadd, 1), (207, .iaload, 1), (208, .aload_n 0, 1), (209, .iload_n 3, 1), (210, .iconst 3, 1), (211, .iadd, 1), (212, .iaload, 1), (213, .aload_n 0, 1), (214, .iload_n 3, 1), (215, .iconst 4, 1), (216, .iadd, 1), (217, .iaload, 1), (218, .aload_n 0, 1), (219, .iload_n 3, 1), (220, .iconst 5, 1), (221, .iadd, 1), (222, .iaload, 1), (223, .invokevirtual 17, 3), (226, .if_icmp .eq 934, 3), (229, .iconst 0, 1), (230, .ireturn, 1), (231, .aload_n 1, 1)]
set_option maxRecDepth 100000 in
set_option maxHeartbeats 4000000 in
theorem dec_law_1 : dcs code DL_law_1 = true := by decide +kernel
def DL_law_2 : List (Nat × Instr × Nat) := [(232, .aload_n 0, 1), (233, .iload_n 3, 1), (234, .iconst 1, 1), (235, .iadd, 1), (236, .iaload, 1), (237, .invokevirtual 18, 3), (240, .aload_n 2, 1), (241, .aload_n 0, 1), (242, .iload_n 3, 1), (243, .iconst 1, 1), (244, .iadd, 1), (245, .iaload, 1), (246, .invokevirtual 22, 3), (249, .if_icmp .eq 911, 3), (252, .iconst 0, 1), (253, .ireturn, 1), (254, .aload_n 1, 1), (255, .invokevirtual 23, 3), (258, .aload_n 2, 1), (259, .invokevirtual 27, 3), (262, .if_icmp .eq 898, 3), (265, .iconst 0, 1), (266, .ireturn, 1), (267, .aload_n 1, 1), (268, .invokevirtual 28, 3), (271, .aload_n 2, 1), (272, .invokevirtual 31, 3), (275, .if_icmp .eq 885, 3), (278, .iconst 0, 1), (279, .ireturn, 1), (280, .aload_n 1, 1), (281, .aload_n 0, 1), (282, .iload_n 3, 1), (283, .iconst 1, 1), (284, .iadd, 1), (285, .iaload, 1), (286, .aload_n 0, 1), (287, .iload_n 3, 1), (288, .iconst 2, 1), (289, .iadd, 1)]
set_option maxRecDepth 100000 in
set_option maxHeartbeats 4000000 in
theorem dec_law_2 : dcs code DL_law_2 = true := by decide +kernel
def DL_law_3 : List (Nat × Instr × Nat) := [(290, .iaload, 1), (291, .aload_n 0, 1), (292, .iload_n 3, 1), (293, .iconst 3, 1), (294, .iadd, 1), (295, .iaload, 1), (296, .invokevirtual 32, 3), (299, .aload_n 2, 1), (300, .aload_n 0, 1), (301, .iload_n 3, 1), (302, .iconst 1, 1), (303, .iadd, 1), (304, .iaload, 1), (305, .aload_n 0, 1), (306, .iload_n 3, 1), (307, .iconst 2, 1), (308, .iadd, 1), (309, .iaload, 1), (310, .aload_n 0, 1), (311, .iload_n 3, 1), (312, .iconst 3, 1), (313, .iadd, 1), (314, .iaload, 1), (315, .invokevirtual 36, 3), (318, .if_icmp .eq 842, 3), (321, .iconst 0, 1), (322, .ireturn, 1), (323, .aload_n 1, 1), (324, .aload_n 0, 1), (325, .iload_n 3, 1), (326, .iconst 1, 1), (327, .iadd, 1), (328, .iaload, 1), (329, .aload_n 0, 1), (330, .iload_n 3, 1), (331, .iconst 2, 1), (332, .iadd, 1), (333, .iaload, 1), (334, .aload_n 0, 1), (335, .iload_n 3, 1)]
set_option maxRecDepth 100000 in
set_option maxHeartbeats 4000000 in
theorem dec_law_3 : dcs code DL_law_3 = true := by decide +kernel
def DL_law_4 : List (Nat × Instr × Nat) := [(336, .iconst 3, 1), (337, .iadd, 1), (338, .iaload, 1), (339, .invokevirtual 37, 3), (342, .aload_n 2, 1), (343, .aload_n 0, 1), (344, .iload_n 3, 1), (345, .iconst 1, 1), (346, .iadd, 1), (347, .iaload, 1), (348, .aload_n 0, 1), (349, .iload_n 3, 1), (350, .iconst 2, 1), (351, .iadd, 1), (352, .iaload, 1), (353, .aload_n 0, 1), (354, .iload_n 3, 1), (355, .iconst 3, 1), (356, .iadd, 1), (357, .iaload, 1), (358, .invokevirtual 40, 3), (361, .if_icmp .eq 799, 3), (364, .iconst 0, 1), (365, .ireturn, 1), (366, .aload_n 1, 1), (367, .aload_n 0, 1), (368, .iload_n 3, 1), (369, .iconst 1, 1), (370, .iadd, 1), (371, .iaload, 1), (372, .aload_n 0, 1), (373, .iload_n 3, 1), (374, .iconst 2, 1), (375, .iadd, 1), (376, .iaload, 1), (377, .aload_n 0, 1), (378, .iload_n 3, 1), (379, .iconst 3, 1), (380, .iadd, 1), (381, .iaload, 1)]
set_option maxRecDepth 100000 in
set_option maxHeartbeats 4000000 in
theorem dec_law_4 : dcs code DL_law_4 = true := by decide +kernel
def DL_law_5 : List (Nat × Instr × Nat) := [(382, .ifCond .eq 7, 3), (385, .iconst 1, 1), (386, .goto 4, 3), (389, .iconst 0, 1), (390, .invokevirtual 41, 3), (393, .aload_n 2, 1), (394, .aload_n 0, 1), (395, .iload_n 3, 1), (396, .iconst 1, 1), (397, .iadd, 1), (398, .iaload, 1), (399, .aload_n 0, 1), (400, .iload_n 3, 1), (401, .iconst 2, 1), (402, .iadd, 1), (403, .iaload, 1), (404, .aload_n 0, 1), (405, .iload_n 3, 1), (406, .iconst 3, 1), (407, .iadd, 1), (408, .iaload, 1), (409, .ifCond .eq 7, 3), (412, .iconst 1, 1), (413, .goto 4, 3), (416, .iconst 0, 1), (417, .invokevirtual 45, 3), (420, .if_icmp .eq 740, 3), (423, .iconst 0, 1), (424, .ireturn, 1), (425, .aload_n 1, 1), (426, .aload_n 0, 1), (427, .iload_n 3, 1), (428, .iconst 1, 1), (429, .iadd, 1), (430, .iaload, 1), (431, .aload_n 0, 1), (432, .iload_n 3, 1), (433, .iconst 2, 1), (434, .iadd, 1), (435, .iaload, 1)]
set_option maxRecDepth 100000 in
set_option maxHeartbeats 4000000 in
theorem dec_law_5 : dcs code DL_law_5 = true := by decide +kernel
def DL_law_6 : List (Nat × Instr × Nat) := [(436, .aload_n 0, 1), (437, .iload_n 3, 1), (438, .iconst 3, 1), (439, .iadd, 1), (440, .iaload, 1), (441, .ifCond .eq 7, 3), (444, .iconst 1, 1), (445, .goto 4, 3), (448, .iconst 0, 1), (449, .invokevirtual 46, 3), (452, .aload_n 2, 1), (453, .aload_n 0, 1), (454, .iload_n 3, 1), (455, .iconst 1, 1), (456, .iadd, 1), (457, .iaload, 1), (458, .aload_n 0, 1), (459, .iload_n 3, 1), (460, .iconst 2, 1), (461, .iadd, 1), (462, .iaload, 1), (463, .aload_n 0, 1), (464, .iload_n 3, 1), (465, .iconst 3, 1), (466, .iadd, 1), (467, .iaload, 1), (468, .ifCond .eq 7, 3), (471, .iconst 1, 1), (472, .goto 4, 3), (475, .iconst 0, 1), (476, .invokevirtual 49, 3), (479, .if_icmp .eq 681, 3), (482, .iconst 0, 1), (483, .ireturn, 1), (484, .aload_n 1, 1), (485, .aload_n 0, 1), (486, .iload_n 3, 1), (487, .iconst 1, 1), (488, .iadd, 1), (489, .iaload, 1)]
set_option maxRecDepth 100000 in
set_option maxHeartbeats 4000000 in
theorem dec_law_6 : dcs code DL_law_6 = true := by decide +kernel
def DL_law_7 : List (Nat × Instr × Nat) := [(490, .aload_n 0, 1), (491, .iload_n 3, 1), (492, .iconst 2, 1), (493, .iadd, 1), (494, .iaload, 1), (495, .invokevirtual 50, 3), (498, .aload_n 2, 1), (499, .aload_n 0, 1), (500, .iload_n 3, 1), (501, .iconst 1, 1), (502, .iadd, 1), (503, .iaload, 1), (504, .aload_n 0, 1), (505, .iload_n 3, 1), (506, .iconst 2, 1), (507, .iadd, 1), (508, .iaload, 1), (509, .invokevirtual 54, 3), (512, .if_icmp .eq 648, 3), (515, .iconst 0, 1), (516, .ireturn, 1), (517, .aload_n 1, 1), (518, .invokevirtual 55, 3), (521, .aload_n 2, 1), (522, .invokevirtual 58, 3), (525, .if_icmp .eq 635, 3), (528, .iconst 0, 1), (529, .ireturn, 1), (530, .aload_n 1, 1), (531, .aload_n 0, 1), (532, .iload_n 3, 1), (533, .iconst 1, 1), (534, .iadd, 1), (535, .iaload, 1), (536, .invokevirtual 59, 3), (539, .aload_n 2, 1), (540, .aload_n 0, 1), (541, .iload_n 3, 1), (542, .iconst 1, 1), (543, .iadd, 1)]
set_option maxRecDepth 100000 in
set_option maxHeartbeats 4000000 in
theorem dec_law_7 : dcs code DL_law_7 = true := by decide +kernel
def DL_law_8 : List (Nat × Instr × Nat) := [(544, .iaload, 1), (545, .invokevirtual 62, 3), (548, .if_icmp .eq 612, 3), (551, .iconst 0, 1), (552, .ireturn, 1), (553, .aload_n 1, 1), (554, .invokevirtual 63, 3), (557, .aload_n 2, 1), (558, .invokevirtual 67, 3), (561, .if_icmp .eq 599, 3), (564, .iconst 0, 1), (565, .ireturn, 1), (566, .aload_n 1, 1), (567, .aload_n 0, 1), (568, .iload_n 3, 1), (569, .iconst 1, 1), (570, .iadd, 1), (571, .iaload, 1), (572, .aload_n 0, 1), (573, .iload_n 3, 1), (574, .iconst 2, 1), (575, .iadd, 1), (576, .iaload, 1), (577, .invokevirtual 68, 3), (580, .aload_n 2, 1), (581, .aload_n 0, 1), (582, .iload_n 3, 1), (583, .iconst 1, 1), (584, .iadd, 1), (585, .iaload, 1), (586, .aload_n 0, 1), (587, .iload_n 3, 1), (588, .iconst 2, 1), (589, .iadd, 1), (590, .iaload, 1), (591, .invokevirtual 71, 3), (594, .if_icmp .eq 566, 3), (597, .iconst 0, 1), (598, .ireturn, 1), (599, .aload_n 1, 1)]
set_option maxRecDepth 100000 in
set_option maxHeartbeats 4000000 in
theorem dec_law_8 : dcs code DL_law_8 = true := by decide +kernel
def DL_law_9 : List (Nat × Instr × Nat) := [(600, .aload_n 0, 1), (601, .iload_n 3, 1), (602, .iconst 1, 1), (603, .iadd, 1), (604, .iaload, 1), (605, .aload_n 0, 1), (606, .iload_n 3, 1), (607, .iconst 2, 1), (608, .iadd, 1), (609, .iaload, 1), (610, .aload_n 0, 1), (611, .iload_n 3, 1), (612, .iconst 3, 1), (613, .iadd, 1), (614, .iaload, 1), (615, .aload_n 0, 1), (616, .iload_n 3, 1), (617, .iconst 4, 1), (618, .iadd, 1), (619, .iaload, 1), (620, .invokevirtual 72, 3), (623, .aload_n 2, 1), (624, .aload_n 0, 1), (625, .iload_n 3, 1), (626, .iconst 1, 1), (627, .iadd, 1), (628, .iaload, 1), (629, .aload_n 0, 1), (630, .iload_n 3, 1), (631, .iconst 2, 1), (632, .iadd, 1), (633, .iaload, 1), (634, .aload_n 0, 1), (635, .iload_n 3, 1), (636, .iconst 3, 1), (637, .iadd, 1), (638, .iaload, 1), (639, .aload_n 0, 1), (640, .iload_n 3, 1), (641, .iconst 4, 1)]
set_option maxRecDepth 100000 in
set_option maxHeartbeats 4000000 in
theorem dec_law_9 : dcs code DL_law_9 = true := by decide +kernel
def DL_law_10 : List (Nat × Instr × Nat) := [(642, .iadd, 1), (643, .iaload, 1), (644, .invokevirtual 76, 3), (647, .if_icmp .eq 513, 3), (650, .iconst 0, 1), (651, .ireturn, 1), (652, .aload_n 1, 1), (653, .aload_n 0, 1), (654, .iload_n 3, 1), (655, .iconst 1, 1), (656, .iadd, 1), (657, .iaload, 1), (658, .invokevirtual 77, 3), (661, .aload_n 2, 1), (662, .aload_n 0, 1), (663, .iload_n 3, 1), (664, .iconst 1, 1), (665, .iadd, 1), (666, .iaload, 1), (667, .invokevirtual 80, 3), (670, .if_icmp .eq 490, 3), (673, .iconst 0, 1), (674, .ireturn, 1), (675, .aload_n 1, 1), (676, .aload_n 0, 1), (677, .iload_n 3, 1), (678, .iconst 1, 1), (679, .iadd, 1), (680, .iaload, 1), (681, .aload_n 0, 1), (682, .iload_n 3, 1), (683, .iconst 2, 1), (684, .iadd, 1), (685, .iaload, 1), (686, .invokevirtual 81, 3), (689, .aload_n 2, 1), (690, .aload_n 0, 1), (691, .iload_n 3, 1), (692, .iconst 1, 1), (693, .iadd, 1)]
set_option maxRecDepth 100000 in
set_option maxHeartbeats 4000000 in
theorem dec_law_10 : dcs code DL_law_10 = true := by decide +kernel
def DL_law_11 : List (Nat × Instr × Nat) := [(694, .iaload, 1), (695, .aload_n 0, 1), (696, .iload_n 3, 1), (697, .iconst 2, 1), (698, .iadd, 1), (699, .iaload, 1), (700, .invokevirtual 84, 3), (703, .if_icmp .eq 457, 3), (706, .iconst 0, 1), (707, .ireturn, 1), (708, .aload_n 1, 1), (709, .aload_n 0, 1), (710, .iload_n 3, 1), (711, .iconst 1, 1), (712, .iadd, 1), (713, .iaload, 1), (714, .aload_n 0, 1), (715, .iload_n 3, 1), (716, .iconst 2, 1), (717, .iadd, 1), (718, .iaload, 1), (719, .aload_n 0, 1), (720, .iload_n 3, 1), (721, .iconst 3, 1), (722, .iadd, 1), (723, .iaload, 1), (724, .invokevirtual 85, 3), (727, .aload_n 2, 1), (728, .aload_n 0, 1), (729, .iload_n 3, 1), (730, .iconst 1, 1), (731, .iadd, 1), (732, .iaload, 1), (733, .aload_n 0, 1), (734, .iload_n 3, 1), (735, .iconst 2, 1), (736, .iadd, 1), (737, .iaload, 1), (738, .aload_n 0, 1), (739, .iload_n 3, 1)]
set_option maxRecDepth 100000 in
set_option maxHeartbeats 4000000 in
theorem dec_law_11 : dcs code DL_law_11 = true := by decide +kernel
def DL_law_12 : List (Nat × Instr × Nat) := [(740, .iconst 3, 1), (741, .iadd, 1), (742, .iaload, 1), (743, .invokevirtual 88, 3), (746, .if_icmp .eq 414, 3), (749, .iconst 0, 1), (750, .ireturn, 1), (751, .aload_n 1, 1), (752, .aload_n 0, 1), (753, .iload_n 3, 1), (754, .iconst 1, 1), (755, .iadd, 1), (756, .iaload, 1), (757, .aload_n 0, 1), (758, .iload_n 3, 1), (759, .iconst 2, 1), (760, .iadd, 1), (761, .iaload, 1), (762, .invokevirtual 89, 3), (765, .aload_n 2, 1), (766, .aload_n 0, 1), (767, .iload_n 3, 1), (768, .iconst 1, 1), (769, .iadd, 1), (770, .iaload, 1), (771, .aload_n 0, 1), (772, .iload_n 3, 1), (773, .iconst 2, 1), (774, .iadd, 1), (775, .iaload, 1), (776, .invokevirtual 92, 3), (779, .if_icmp .eq 381, 3), (782, .iconst 0, 1), (783, .ireturn, 1), (784, .aload_n 1, 1), (785, .aload_n 0, 1), (786, .iload_n 3, 1), (787, .iconst 1, 1), (788, .iadd, 1), (789, .iaload, 1)]
set_option maxRecDepth 100000 in
set_option maxHeartbeats 4000000 in
theorem dec_law_12 : dcs code DL_law_12 = true := by decide +kernel
def DL_law_13 : List (Nat × Instr × Nat) := [(790, .invokevirtual 93, 3), (793, .aload_n 2, 1), (794, .aload_n 0, 1), (795, .iload_n 3, 1), (796, .iconst 1, 1), (797, .iadd, 1), (798, .iaload, 1), (799, .invokevirtual 96, 3), (802, .if_icmp .eq 358, 3), (805, .iconst 0, 1), (806, .ireturn, 1), (807, .aload_n 1, 1), (808, .aload_n 0, 1), (809, .iload_n 3, 1), (810, .iconst 1, 1), (811, .iadd, 1), (812, .iaload, 1), (813, .invokevirtual 97, 3), (816, .aload_n 2, 1), (817, .aload_n 0, 1), (818, .iload_n 3, 1), (819, .iconst 1, 1), (820, .iadd, 1), (821, .iaload, 1), (822, .invokevirtual 100, 3), (825, .if_icmp .eq 335, 3), (828, .iconst 0, 1), (829, .ireturn, 1), (830, .aload_n 1, 1), (831, .aload_n 0, 1), (832, .iload_n 3, 1), (833, .iconst 1, 1), (834, .iadd, 1), (835, .iaload, 1), (836, .aload_n 0, 1), (837, .iload_n 3, 1), (838, .iconst 2, 1), (839, .iadd, 1), (840, .iaload, 1), (841, .aload_n 0, 1)]
set_option maxRecDepth 100000 in
set_option maxHeartbeats 4000000 in
theorem dec_law_13 : dcs code DL_law_13 = true := by decide +kernel
def DL_law_14 : List (Nat × Instr × Nat) := [(842, .iload_n 3, 1), (843, .iconst 3, 1), (844, .iadd, 1), (845, .iaload, 1), (846, .invokevirtual 101, 3), (849, .aload_n 2, 1), (850, .aload_n 0, 1), (851, .iload_n 3, 1), (852, .iconst 1, 1), (853, .iadd, 1), (854, .iaload, 1), (855, .aload_n 0, 1), (856, .iload_n 3, 1), (857, .iconst 2, 1), (858, .iadd, 1), (859, .iaload, 1), (860, .aload_n 0, 1), (861, .iload_n 3, 1), (862, .iconst 3, 1), (863, .iadd, 1), (864, .iaload, 1), (865, .invokevirtual 104, 3), (868, .if_icmp .eq 292, 3), (871, .iconst 0, 1), (872, .ireturn, 1), (873, .aload_n 1, 1), (874, .aload_n 0, 1), (875, .iload_n 3, 1), (876, .iconst 1, 1), (877, .iadd, 1), (878, .iaload, 1), (879, .aload_n 0, 1), (880, .iload_n 3, 1), (881, .iconst 2, 1), (882, .iadd, 1), (883, .iaload, 1), (884, .aload_n 0, 1), (885, .iload_n 3, 1), (886, .iconst 3, 1), (887, .iadd, 1)]
set_option maxRecDepth 100000 in
set_option maxHeartbeats 4000000 in
theorem dec_law_14 : dcs code DL_law_14 = true := by decide +kernel
def DL_law_15 : List (Nat × Instr × Nat) := [(888, .iaload, 1), (889, .aload_n 0, 1), (890, .iload_n 3, 1), (891, .iconst 4, 1), (892, .iadd, 1), (893, .iaload, 1), (894, .invokevirtual 105, 3), (897, .aload_n 2, 1), (898, .aload_n 0, 1), (899, .iload_n 3, 1), (900, .iconst 1, 1), (901, .iadd, 1), (902, .iaload, 1), (903, .aload_n 0, 1), (904, .iload_n 3, 1), (905, .iconst 2, 1), (906, .iadd, 1), (907, .iaload, 1), (908, .aload_n 0, 1), (909, .iload_n 3, 1), (910, .iconst 3, 1), (911, .iadd, 1), (912, .iaload, 1), (913, .aload_n 0, 1), (914, .iload_n 3, 1), (915, .iconst 4, 1), (916, .iadd, 1), (917, .iaload, 1), (918, .invokevirtual 108, 3), (921, .if_icmp .eq 239, 3), (924, .iconst 0, 1), (925, .ireturn, 1), (926, .aload_n 1, 1), (927, .aload_n 0, 1), (928, .iload_n 3, 1), (929, .iconst 1, 1), (930, .iadd, 1), (931, .iaload, 1), (932, .invokevirtual 109, 3), (935, .aload_n 2, 1)]
set_option maxRecDepth 100000 in
set_option maxHeartbeats 4000000 in
theorem dec_law_15 : dcs code DL_law_15 = true := by decide +kernel
def DL_law_16 : List (Nat × Instr × Nat) := [(936, .aload_n 0, 1), (937, .iload_n 3, 1), (938, .iconst 1, 1), (939, .iadd, 1), (940, .iaload, 1), (941, .invokevirtual 112, 3), (944, .if_icmp .eq 216, 3), (947, .iconst 0, 1), (948, .ireturn, 1), (949, .aload_n 1, 1), (950, .aload_n 0, 1), (951, .iload_n 3, 1), (952, .iconst 1, 1), (953, .iadd, 1), (954, .iaload, 1), (955, .aload_n 0, 1), (956, .iload_n 3, 1), (957, .iconst 2, 1), (958, .iadd, 1), (959, .iaload, 1), (960, .aload_n 0, 1), (961, .iload_n 3, 1), (962, .iconst 3, 1), (963, .iadd, 1), (964, .iaload, 1), (965, .aload_n 0, 1), (966, .iload_n 3, 1), (967, .iconst 4, 1), (968, .iadd, 1), (969, .iaload, 1), (970, .invokevirtual 113, 3), (973, .aload_n 2, 1), (974, .aload_n 0, 1), (975, .iload_n 3, 1), (976, .iconst 1, 1), (977, .iadd, 1), (978, .iaload, 1), (979, .aload_n 0, 1), (980, .iload_n 3, 1), (981, .iconst 2, 1)]
set_option maxRecDepth 100000 in
set_option maxHeartbeats 4000000 in
theorem dec_law_16 : dcs code DL_law_16 = true := by decide +kernel
def DL_law_17 : List (Nat × Instr × Nat) := [(982, .iadd, 1), (983, .iaload, 1), (984, .aload_n 0, 1), (985, .iload_n 3, 1), (986, .iconst 3, 1), (987, .iadd, 1), (988, .iaload, 1), (989, .aload_n 0, 1), (990, .iload_n 3, 1), (991, .iconst 4, 1), (992, .iadd, 1), (993, .iaload, 1), (994, .invokevirtual 116, 3), (997, .if_icmp .eq 163, 3), (1000, .iconst 0, 1), (1001, .ireturn, 1), (1002, .aload_n 1, 1), (1003, .aload_n 0, 1), (1004, .iload_n 3, 1), (1005, .iconst 1, 1), (1006, .iadd, 1), (1007, .iaload, 1), (1008, .aload_n 0, 1), (1009, .iload_n 3, 1), (1010, .iconst 2, 1), (1011, .iadd, 1), (1012, .iaload, 1), (1013, .aload_n 0, 1), (1014, .iload_n 3, 1), (1015, .iconst 3, 1), (1016, .iadd, 1), (1017, .iaload, 1), (1018, .invokevirtual 117, 3), (1021, .aload_n 2, 1), (1022, .aload_n 0, 1), (1023, .iload_n 3, 1), (1024, .iconst 1, 1), (1025, .iadd, 1), (1026, .iaload, 1), (1027, .aload_n 0, 1)]
set_option maxRecDepth 100000 in
set_option maxHeartbeats 4000000 in
theorem dec_law_17 : dcs code DL_law_17 = true := by decide +kernel
def DL_law_18 : List (Nat × Instr × Nat) := [(1028, .iload_n 3, 1), (1029, .iconst 2, 1), (1030, .iadd, 1), (1031, .iaload, 1), (1032, .aload_n 0, 1), (1033, .iload_n 3, 1), (1034, .iconst 3, 1), (1035, .iadd, 1), (1036, .iaload, 1), (1037, .invokevirtual 120, 3), (1040, .if_icmp .eq 120, 3), (1043, .iconst 0, 1), (1044, .ireturn, 1), (1045, .aload_n 1, 1), (1046, .invokevirtual 121, 3), (1049, .aload_n 2, 1), (1050, .invokevirtual 124, 3), (1053, .if_icmp .eq 107, 3), (1056, .iconst 0, 1), (1057, .ireturn, 1), (1058, .aload_n 1, 1), (1059, .aload_n 0, 1), (1060, .iload_n 3, 1), (1061, .iconst 1, 1), (1062, .iadd, 1), (1063, .iaload, 1), (1064, .aload_n 0, 1), (1065, .iload_n 3, 1), (1066, .iconst 2, 1), (1067, .iadd, 1), (1068, .iaload, 1), (1069, .invokevirtual 125, 3), (1072, .aload_n 2, 1), (1073, .aload_n 0, 1), (1074, .iload_n 3, 1), (1075, .iconst 1, 1), (1076, .iadd, 1), (1077, .iaload, 1), (1078, .aload_n 0, 1), (1079, .iload_n 3, 1)]
set_option maxRecDepth 100000 in
set_option maxHeartbeats 4000000 in
theorem dec_law_18 : dcs code DL_law_18 = true := by decide +kernel
def DL_law_19 : List (Nat × Instr × Nat) := [(1080, .iconst 2, 1), (1081, .iadd, 1), (1082, .iaload, 1), (1083, .invokevirtual 128, 3), (1086, .if_icmp .eq 74, 3), (1089, .iconst 0, 1), (1090, .ireturn, 1), (1091, .aload_n 1, 1), (1092, .aload_n 0, 1), (1093, .iload_n 3, 1), (1094, .iconst 1, 1), (1095, .iadd, 1), (1096, .iaload, 1), (1097, .invokevirtual 129, 3), (1100, .aload_n 2, 1), (1101, .aload_n 0, 1), (1102, .iload_n 3, 1), (1103, .iconst 1, 1), (1104, .iadd, 1), (1105, .iaload, 1), (1106, .invokevirtual 133, 3), (1109, .if_icmp .eq 51, 3), (1112, .iconst 0, 1), (1113, .ireturn, 1), (1114, .aload_n 1, 1), (1115, .aload_n 0, 1), (1116, .iload_n 3, 1), (1117, .iconst 1, 1), (1118, .iadd, 1), (1119, .iaload, 1), (1120, .invokevirtual 134, 3), (1123, .aload_n 2, 1), (1124, .aload_n 0, 1), (1125, .iload_n 3, 1), (1126, .iconst 1, 1), (1127, .iadd, 1), (1128, .iaload, 1), (1129, .invokevirtual 137, 3), (1132, .if_icmp .eq 28, 3), (1135, .iconst 0, 1)]
set_option maxRecDepth 100000 in
set_option maxHeartbeats 4000000 in
theorem dec_law_19 : dcs code DL_law_19 = true := by decide +kernel
def DL_law_20 : List (Nat × Instr × Nat) := [(1136, .ireturn, 1), (1137, .aload_n 1, 1), (1138, .aload_n 0, 1), (1139, .iload_n 3, 1), (1140, .iconst 1, 1), (1141, .iadd, 1), (1142, .iaload, 1), (1143, .invokevirtual 138, 3), (1146, .aload_n 2, 1), (1147, .aload_n 0, 1), (1148, .iload_n 3, 1), (1149, .iconst 1, 1), (1150, .iadd, 1), (1151, .iaload, 1), (1152, .invokevirtual 141, 3), (1155, .if_icmp .eq 5, 3), (1158, .iconst 0, 1), (1159, .ireturn, 1), (1160, .iinc 3 6, 3), (1163, .goto (-1145), 3), (1166, .iconst 1, 1), (1167, .ireturn, 1)]
set_option maxRecDepth 100000 in
set_option maxHeartbeats 4000000 in
theorem dec_law_20 : dcs code DL_law_20 = true := by decide +kernel
def LC (p : Program) (s : State) (m : MethodId) (meth : Method) (c : Code) (D : va_G) (ay : Nat → ClassId) (ad1 ad2 : Nat → Nat) (b L : Nat) (xs : Nat → Int32) : Prop :=
  Gx p m c code 4 s #[Value.ref b] RL D ay NC ad1 (fun q : Nat => s.heap.size ≤ q) ∧ Gx p m c code 4 s #[Value.ref b] RL D ay NM ad2 (fun q : Nat => s.heap.size ≤ q) ∧ (∀ i j, i < NC → j < NM → ad1 i ≠ ad2 j) ∧ va_X b L xs s s.heap ∧ b < s.heap.size ∧ meth.sig.returnType = ret ∧ meth.locks = false
def WL (D : va_G) (ay : Nat → ClassId) (ad1 ad2 : Nat → Nat) (s : State) (σ τ : hSt) (H : Heap) (locs : List Loc) : Prop :=
  va_P D vwCl (wld ay kC NC ad1 σ) H ∧ va_P D vwCl (wld ay kM NM ad2 τ) H ∧ va_S (fun q : Nat => s.heap.size ≤ q) s.heap H locs
theorem keepP {D : va_G} {ay : Nat → ClassId} {K : Nat → Nat × Nat} {n1 n2 : Nat} {ad1 ad2 : Nat → Nat} {τ : hSt} {H H1 : Heap} (hd : ∀ j, j < n2 → ¬ aN n1 ad1 (ad2 j)) (hP : va_P D vwCl (wld ay K n2 ad2 τ) H) (hk : ∀ q : Nat, q < H.size → ¬ aN n1 ad1 q → H1[q]? = H[q]?) : va_P D vwCl (wld ay K n2 ad2 τ) H1 := by
  refine hP.kept (fun k q hq => hk q.1 (hP k q hq).lt ?_)
  by_cases hn : k < n2
  · rw [wld_get hn] at hq
    cases hq
    exact hd k hn
  · simp [wld, hn] at hq
section HLW
variable {p : Program} {l : Launch} {e : Env} {R : Room} {s : State} {m : MethodId} {below : List Frame} {meth : Method} {c : Code} {H : Heap} {locs : List Loc} {cells slots : Nat} {Q : State → Prop}
variable {pc : Nat} {ls : Array Slot} {rest : List Value} {D : va_G} {ay : Nat → ClassId} {ad1 ad2 : Nat → Nat} {σ τ : hSt} {b L : Nat} {xs : Nat → Int32}
theorem a_i1 {a : Array Value} {st : List Value} {r1 : Int32} {σ1 : hSt} (hr : va_Run p l e R s m #[Value.ref b] below meth c H locs cells slots 0 0 (F0 m pc ls st) rest (cI D ay kC NC ad1 r1 σ1 a) (aN NC ad1)) (X : LC p s m meth c D ay ad1 ad2 b L xs) (w : WL D ay ad1 ad2 s σ τ H locs)
    (kk : ∀ (H1 : Heap) (locs1 : List Loc), WL D ay ad1 ad2 s σ1 τ H1 locs1 → W p l e R s m #[Value.ref b] below meth c H1 locs1 cells slots Q (F0 m (pc + 3) ls (.int r1 :: rest))) : W p l e R s m #[Value.ref b] below meth c H locs cells slots Q (F0 m pc ls st) := by
  have hAn : ∀ q, aN NC ad1 q → s.heap.size ≤ q := fun q h => by obtain ⟨k, hk, rfl⟩ := h; exact X.1.2.2.2.1 k hk
  refine va_calli hr w.2.2 (fun q _ h => hAn q h) hAn (fun r u t H1 locs1 ht hvm hp hB hz hk hS => ?_)
  subst hp
  exact kk H1 locs1 ⟨by rw [← ht]; exact hB, keepP (fun j hj h => by obtain ⟨i, hi, h⟩ := h; exact X.2.2.1 i j hi hj h) w.2.1 hk, hS⟩
theorem a_i2 {a : Array Value} {st : List Value} {r1 : Int32} {τ1 : hSt} (hr : va_Run p l e R s m #[Value.ref b] below meth c H locs cells slots 0 0 (F0 m pc ls st) rest (cI D ay kM NM ad2 r1 τ1 a) (aN NM ad2)) (X : LC p s m meth c D ay ad1 ad2 b L xs) (w : WL D ay ad1 ad2 s σ τ H locs)
    (kk : ∀ (H1 : Heap) (locs1 : List Loc), WL D ay ad1 ad2 s σ τ1 H1 locs1 → W p l e R s m #[Value.ref b] below meth c H1 locs1 cells slots Q (F0 m (pc + 3) ls (.int r1 :: rest))) : W p l e R s m #[Value.ref b] below meth c H locs cells slots Q (F0 m pc ls st) := by
  have hAn : ∀ q, aN NM ad2 q → s.heap.size ≤ q := fun q h => by obtain ⟨k, hk, rfl⟩ := h; exact X.2.1.2.2.2.1 k hk
  refine va_calli hr w.2.2 (fun q _ h => hAn q h) hAn (fun r u t H1 locs1 ht hvm hp hB hz hk hS => ?_)
  subst hp
  exact kk H1 locs1 ⟨keepP (fun j hj h => by obtain ⟨i, hi, h⟩ := h; exact X.2.2.1 j i hj hi h.symm) w.1 hk, by rw [← ht]; exact hB, hS⟩
end HLW
theorem ok11 : okr kC NC 11 0 = true := by decide +kernel
theorem ok12 : okr kM NM 12 0 = true := by decide +kernel
def F_law_168 (xs : Nat → Int32) (L : Nat) (i : Int32) (σ τ : hSt) : Option ((Int32 × hSt × hSt) ⊕ Int32) :=
cG (inb (i + (1 : Int32)) L) <|
cG (inb (i + (2 : Int32)) L) <|
cG (inb (i + (3 : Int32)) L) <|
cG (inb (i + (4 : Int32)) L) <|
cG (inb (i + (5 : Int32)) L) <|
cC (F_X11_feed 0 (xs (i + (1 : Int32)).toNatClampNeg) (xs (i + (2 : Int32)).toNatClampNeg) (xs (i + (3 : Int32)).toNatClampNeg) (xs (i + (4 : Int32)).toNatClampNeg) (xs (i + (5 : Int32)).toNatClampNeg) σ) fun v7 σ8 =>
cG (inb (i + (1 : Int32)) L) <|
cG (inb (i + (2 : Int32)) L) <|
cG (inb (i + (3 : Int32)) L) <|
cG (inb (i + (4 : Int32)) L) <|
cG (inb (i + (5 : Int32)) L) <|
cC (F_X12_feed 0 (xs (i + (1 : Int32)).toNatClampNeg) (xs (i + (2 : Int32)).toNatClampNeg) (xs (i + (3 : Int32)).toNatClampNeg) (xs (i + (4 : Int32)).toNatClampNeg) (xs (i + (5 : Int32)).toNatClampNeg) τ) fun v15 τ16 =>
if v7 = v15 then (
cL (i + (6 : Int32)) fun v17 =>
some (.inl (v17, σ8, τ16))) else (
some (.inr (0 : Int32)))
def F_law_231 (xs : Nat → Int32) (L : Nat) (i : Int32) (σ τ : hSt) : Option ((Int32 × hSt × hSt) ⊕ Int32) :=
cG (inb (i + (1 : Int32)) L) <|
cC (F_X11_back 0 (xs (i + (1 : Int32)).toNatClampNeg) σ) fun v20 σ21 =>
cG (inb (i + (1 : Int32)) L) <|
cC (F_X12_back 0 (xs (i + (1 : Int32)).toNatClampNeg) τ) fun v24 τ25 =>
if v20 = v24 then (
cL (i + (6 : Int32)) fun v26 =>
some (.inl (v26, σ21, τ25))) else (
some (.inr (0 : Int32)))
def F_law_254 (xs : Nat → Int32) (L : Nat) (i : Int32) (σ τ : hSt) : Option ((Int32 × hSt × hSt) ⊕ Int32) :=
cC (F_X11_read 0  σ) fun v28 σ29 =>
cC (F_X12_read 0  τ) fun v31 τ32 =>
if v28 = v31 then (
cL (i + (6 : Int32)) fun v33 =>
some (.inl (v33, σ29, τ32))) else (
some (.inr (0 : Int32)))
def F_law_267 (xs : Nat → Int32) (L : Nat) (i : Int32) (σ τ : hSt) : Option ((Int32 × hSt × hSt) ⊕ Int32) :=
(F_X11_place 0  σ).bind fun v35 =>
(F_X12_place 0  τ).bind fun v37 =>
if v35 = v37 then (
cL (i + (6 : Int32)) fun v38 =>
some (.inl (v38, σ, τ))) else (
some (.inr (0 : Int32)))
def F_law_280 (xs : Nat → Int32) (L : Nat) (i : Int32) (σ τ : hSt) : Option ((Int32 × hSt × hSt) ⊕ Int32) :=
cG (inb (i + (1 : Int32)) L) <|
cG (inb (i + (2 : Int32)) L) <|
cG (inb (i + (3 : Int32)) L) <|
cC (F_X11_hears 0 (xs (i + (1 : Int32)).toNatClampNeg) (xs (i + (2 : Int32)).toNatClampNeg) (xs (i + (3 : Int32)).toNatClampNeg) σ) fun v43 σ44 =>
cG (inb (i + (1 : Int32)) L) <|
cG (inb (i + (2 : Int32)) L) <|
cG (inb (i + (3 : Int32)) L) <|
cC (F_X12_hears 0 (xs (i + (1 : Int32)).toNatClampNeg) (xs (i + (2 : Int32)).toNatClampNeg) (xs (i + (3 : Int32)).toNatClampNeg) τ) fun v49 τ50 =>
if v43 = v49 then (
cL (i + (6 : Int32)) fun v51 =>
some (.inl (v51, σ44, τ50))) else (
some (.inr (0 : Int32)))
def F_law_323 (xs : Nat → Int32) (L : Nat) (i : Int32) (σ τ : hSt) : Option ((Int32 × hSt × hSt) ⊕ Int32) :=
cG (inb (i + (1 : Int32)) L) <|
cG (inb (i + (2 : Int32)) L) <|
cG (inb (i + (3 : Int32)) L) <|
(F_X11_news 0 (xs (i + (1 : Int32)).toNatClampNeg) (xs (i + (2 : Int32)).toNatClampNeg) (xs (i + (3 : Int32)).toNatClampNeg) σ).bind fun v56 =>
cG (inb (i + (1 : Int32)) L) <|
cG (inb (i + (2 : Int32)) L) <|
cG (inb (i + (3 : Int32)) L) <|
(F_X12_news 0 (xs (i + (1 : Int32)).toNatClampNeg) (xs (i + (2 : Int32)).toNatClampNeg) (xs (i + (3 : Int32)).toNatClampNeg) τ).bind fun v61 =>
if v56 = v61 then (
cL (i + (6 : Int32)) fun v62 =>
some (.inl (v62, σ, τ))) else (
some (.inr (0 : Int32)))
def F_law_366 (xs : Nat → Int32) (L : Nat) (i : Int32) (σ τ : hSt) : Option ((Int32 × hSt × hSt) ⊕ Int32) :=
cG (inb (i + (1 : Int32)) L) <|
cG (inb (i + (2 : Int32)) L) <|
cG (inb (i + (3 : Int32)) L) <|
if (xs (i + (3 : Int32)).toNatClampNeg) = 0 then (
cC (F_X11_drum 0 (xs (i + (1 : Int32)).toNatClampNeg) (xs (i + (2 : Int32)).toNatClampNeg) (0 : Int32) σ) fun v67 σ68 =>
cG (inb (i + (1 : Int32)) L) <|
cG (inb (i + (2 : Int32)) L) <|
cG (inb (i + (3 : Int32)) L) <|
if (xs (i + (3 : Int32)).toNatClampNeg) = 0 then (
cC (F_X12_drum 0 (xs (i + (1 : Int32)).toNatClampNeg) (xs (i + (2 : Int32)).toNatClampNeg) (0 : Int32) τ) fun v73 τ74 =>
if v67 = v73 then (
cL (i + (6 : Int32)) fun v75 =>
some (.inl (v75, σ68, τ74))) else (
some (.inr (0 : Int32)))) else (
cC (F_X12_drum 0 (xs (i + (1 : Int32)).toNatClampNeg) (xs (i + (2 : Int32)).toNatClampNeg) (1 : Int32) τ) fun v77 τ78 =>
if v67 = v77 then (
cL (i + (6 : Int32)) fun v79 =>
some (.inl (v79, σ68, τ78))) else (
some (.inr (0 : Int32))))) else (
cC (F_X11_drum 0 (xs (i + (1 : Int32)).toNatClampNeg) (xs (i + (2 : Int32)).toNatClampNeg) (1 : Int32) σ) fun v81 σ82 =>
cG (inb (i + (1 : Int32)) L) <|
cG (inb (i + (2 : Int32)) L) <|
cG (inb (i + (3 : Int32)) L) <|
if (xs (i + (3 : Int32)).toNatClampNeg) = 0 then (
cC (F_X12_drum 0 (xs (i + (1 : Int32)).toNatClampNeg) (xs (i + (2 : Int32)).toNatClampNeg) (0 : Int32) τ) fun v87 τ88 =>
if v81 = v87 then (
cL (i + (6 : Int32)) fun v89 =>
some (.inl (v89, σ82, τ88))) else (
some (.inr (0 : Int32)))) else (
cC (F_X12_drum 0 (xs (i + (1 : Int32)).toNatClampNeg) (xs (i + (2 : Int32)).toNatClampNeg) (1 : Int32) τ) fun v91 τ92 =>
if v81 = v91 then (
cL (i + (6 : Int32)) fun v93 =>
some (.inl (v93, σ82, τ92))) else (
some (.inr (0 : Int32)))))
def F_law_425 (xs : Nat → Int32) (L : Nat) (i : Int32) (σ τ : hSt) : Option ((Int32 × hSt × hSt) ⊕ Int32) :=
cG (inb (i + (1 : Int32)) L) <|
cG (inb (i + (2 : Int32)) L) <|
cG (inb (i + (3 : Int32)) L) <|
if (xs (i + (3 : Int32)).toNatClampNeg) = 0 then (
(F_X11_may 0 (xs (i + (1 : Int32)).toNatClampNeg) (xs (i + (2 : Int32)).toNatClampNeg) (0 : Int32) σ).bind fun v98 =>
cG (inb (i + (1 : Int32)) L) <|
cG (inb (i + (2 : Int32)) L) <|
cG (inb (i + (3 : Int32)) L) <|
if (xs (i + (3 : Int32)).toNatClampNeg) = 0 then (
cC (F_X12_may 0 (xs (i + (1 : Int32)).toNatClampNeg) (xs (i + (2 : Int32)).toNatClampNeg) (0 : Int32) τ) fun v103 τ104 =>
if v98 = v103 then (
cL (i + (6 : Int32)) fun v105 =>
some (.inl (v105, σ, τ104))) else (
some (.inr (0 : Int32)))) else (
cC (F_X12_may 0 (xs (i + (1 : Int32)).toNatClampNeg) (xs (i + (2 : Int32)).toNatClampNeg) (1 : Int32) τ) fun v107 τ108 =>
if v98 = v107 then (
cL (i + (6 : Int32)) fun v109 =>
some (.inl (v109, σ, τ108))) else (
some (.inr (0 : Int32))))) else (
(F_X11_may 0 (xs (i + (1 : Int32)).toNatClampNeg) (xs (i + (2 : Int32)).toNatClampNeg) (1 : Int32) σ).bind fun v111 =>
cG (inb (i + (1 : Int32)) L) <|
cG (inb (i + (2 : Int32)) L) <|
cG (inb (i + (3 : Int32)) L) <|
if (xs (i + (3 : Int32)).toNatClampNeg) = 0 then (
cC (F_X12_may 0 (xs (i + (1 : Int32)).toNatClampNeg) (xs (i + (2 : Int32)).toNatClampNeg) (0 : Int32) τ) fun v116 τ117 =>
if v111 = v116 then (
cL (i + (6 : Int32)) fun v118 =>
some (.inl (v118, σ, τ117))) else (
some (.inr (0 : Int32)))) else (
cC (F_X12_may 0 (xs (i + (1 : Int32)).toNatClampNeg) (xs (i + (2 : Int32)).toNatClampNeg) (1 : Int32) τ) fun v120 τ121 =>
if v111 = v120 then (
cL (i + (6 : Int32)) fun v122 =>
some (.inl (v122, σ, τ121))) else (
some (.inr (0 : Int32)))))
def F_law_484 (xs : Nat → Int32) (L : Nat) (i : Int32) (σ τ : hSt) : Option ((Int32 × hSt × hSt) ⊕ Int32) :=
cG (inb (i + (1 : Int32)) L) <|
cG (inb (i + (2 : Int32)) L) <|
(F_X11_drummed 0 (xs (i + (1 : Int32)).toNatClampNeg) (xs (i + (2 : Int32)).toNatClampNeg) σ).bind fun v126 =>
cG (inb (i + (1 : Int32)) L) <|
cG (inb (i + (2 : Int32)) L) <|
(F_X12_drummed 0 (xs (i + (1 : Int32)).toNatClampNeg) (xs (i + (2 : Int32)).toNatClampNeg) τ).bind fun v130 =>
if v126 = v130 then (
cL (i + (6 : Int32)) fun v131 =>
some (.inl (v131, σ, τ))) else (
some (.inr (0 : Int32)))
def F_law_517 (xs : Nat → Int32) (L : Nat) (i : Int32) (σ τ : hSt) : Option ((Int32 × hSt × hSt) ⊕ Int32) :=
cC (F_X11_night 0  σ) fun v133 σ134 =>
cC (F_X12_night 0  τ) fun v136 τ137 =>
if v133 = v136 then (
cL (i + (6 : Int32)) fun v138 =>
some (.inl (v138, σ134, τ137))) else (
some (.inr (0 : Int32)))
def F_law_530 (xs : Nat → Int32) (L : Nat) (i : Int32) (σ τ : hSt) : Option ((Int32 × hSt × hSt) ⊕ Int32) :=
cG (inb (i + (1 : Int32)) L) <|
cC (F_X11_run 0 (xs (i + (1 : Int32)).toNatClampNeg) σ) fun v141 σ142 =>
cG (inb (i + (1 : Int32)) L) <|
cC (F_X12_run 0 (xs (i + (1 : Int32)).toNatClampNeg) τ) fun v145 τ146 =>
if v141 = v145 then (
cL (i + (6 : Int32)) fun v147 =>
some (.inl (v147, σ142, τ146))) else (
some (.inr (0 : Int32)))
def F_law_553 (xs : Nat → Int32) (L : Nat) (i : Int32) (σ τ : hSt) : Option ((Int32 × hSt × hSt) ⊕ Int32) :=
cC (F_X11_undo 0  σ) fun v149 σ150 =>
cC (F_X12_undo 0  τ) fun v152 τ153 =>
if v149 = v152 then (
cL (i + (6 : Int32)) fun v154 =>
some (.inl (v154, σ150, τ153))) else (
some (.inr (0 : Int32)))
def F_law_566 (xs : Nat → Int32) (L : Nat) (i : Int32) (σ τ : hSt) : Option ((Int32 × hSt × hSt) ⊕ Int32) :=
cG (inb (i + (1 : Int32)) L) <|
cG (inb (i + (2 : Int32)) L) <|
cC (F_X11_byRule 0 (xs (i + (1 : Int32)).toNatClampNeg) (xs (i + (2 : Int32)).toNatClampNeg) σ) fun v158 σ159 =>
cG (inb (i + (1 : Int32)) L) <|
cG (inb (i + (2 : Int32)) L) <|
cC (F_X12_byRule 0 (xs (i + (1 : Int32)).toNatClampNeg) (xs (i + (2 : Int32)).toNatClampNeg) τ) fun v163 τ164 =>
if v158 = v163 then (
cL (i + (6 : Int32)) fun v165 =>
some (.inl (v165, σ159, τ164))) else (
some (.inr (0 : Int32)))
def F_law_599 (xs : Nat → Int32) (L : Nat) (i : Int32) (σ τ : hSt) : Option ((Int32 × hSt × hSt) ⊕ Int32) :=
cG (inb (i + (1 : Int32)) L) <|
cG (inb (i + (2 : Int32)) L) <|
cG (inb (i + (3 : Int32)) L) <|
cG (inb (i + (4 : Int32)) L) <|
cC (F_X11_agreed 0 (xs (i + (1 : Int32)).toNatClampNeg) (xs (i + (2 : Int32)).toNatClampNeg) (xs (i + (3 : Int32)).toNatClampNeg) (xs (i + (4 : Int32)).toNatClampNeg) σ) fun v171 σ172 =>
cG (inb (i + (1 : Int32)) L) <|
cG (inb (i + (2 : Int32)) L) <|
cG (inb (i + (3 : Int32)) L) <|
cG (inb (i + (4 : Int32)) L) <|
cC (F_X12_agreed 0 (xs (i + (1 : Int32)).toNatClampNeg) (xs (i + (2 : Int32)).toNatClampNeg) (xs (i + (3 : Int32)).toNatClampNeg) (xs (i + (4 : Int32)).toNatClampNeg) τ) fun v178 τ179 =>
if v171 = v178 then (
cL (i + (6 : Int32)) fun v180 =>
some (.inl (v180, σ172, τ179))) else (
some (.inr (0 : Int32)))
def F_law_652 (xs : Nat → Int32) (L : Nat) (i : Int32) (σ τ : hSt) : Option ((Int32 × hSt × hSt) ⊕ Int32) :=
cG (inb (i + (1 : Int32)) L) <|
cC (F_X11_talk 0 (xs (i + (1 : Int32)).toNatClampNeg) σ) fun v183 σ184 =>
cG (inb (i + (1 : Int32)) L) <|
cC (F_X12_talk 0 (xs (i + (1 : Int32)).toNatClampNeg) τ) fun v187 τ188 =>
if v183 = v187 then (
cL (i + (6 : Int32)) fun v189 =>
some (.inl (v189, σ184, τ188))) else (
some (.inr (0 : Int32)))
def F_law_675 (xs : Nat → Int32) (L : Nat) (i : Int32) (σ τ : hSt) : Option ((Int32 × hSt × hSt) ⊕ Int32) :=
cG (inb (i + (1 : Int32)) L) <|
cG (inb (i + (2 : Int32)) L) <|
cC (F_X11_bestOrder 0 (xs (i + (1 : Int32)).toNatClampNeg) (xs (i + (2 : Int32)).toNatClampNeg) σ) fun v193 σ194 =>
cG (inb (i + (1 : Int32)) L) <|
cG (inb (i + (2 : Int32)) L) <|
cC (F_X12_bestOrder 0 (xs (i + (1 : Int32)).toNatClampNeg) (xs (i + (2 : Int32)).toNatClampNeg) τ) fun v198 τ199 =>
if v193 = v198 then (
cL (i + (6 : Int32)) fun v200 =>
some (.inl (v200, σ194, τ199))) else (
some (.inr (0 : Int32)))
def F_law_708 (xs : Nat → Int32) (L : Nat) (i : Int32) (σ τ : hSt) : Option ((Int32 × hSt × hSt) ⊕ Int32) :=
cG (inb (i + (1 : Int32)) L) <|
cG (inb (i + (2 : Int32)) L) <|
cG (inb (i + (3 : Int32)) L) <|
cC (F_X11_quiet 0 (xs (i + (1 : Int32)).toNatClampNeg) (xs (i + (2 : Int32)).toNatClampNeg) (xs (i + (3 : Int32)).toNatClampNeg) σ) fun v205 σ206 =>
cG (inb (i + (1 : Int32)) L) <|
cG (inb (i + (2 : Int32)) L) <|
cG (inb (i + (3 : Int32)) L) <|
cC (F_X12_quiet 0 (xs (i + (1 : Int32)).toNatClampNeg) (xs (i + (2 : Int32)).toNatClampNeg) (xs (i + (3 : Int32)).toNatClampNeg) τ) fun v211 τ212 =>
if v205 = v211 then (
cL (i + (6 : Int32)) fun v213 =>
some (.inl (v213, σ206, τ212))) else (
some (.inr (0 : Int32)))
def F_law_751 (xs : Nat → Int32) (L : Nat) (i : Int32) (σ τ : hSt) : Option ((Int32 × hSt × hSt) ⊕ Int32) :=
cG (inb (i + (1 : Int32)) L) <|
cG (inb (i + (2 : Int32)) L) <|
cC (F_X11_soonest 0 (xs (i + (1 : Int32)).toNatClampNeg) (xs (i + (2 : Int32)).toNatClampNeg) σ) fun v217 σ218 =>
cG (inb (i + (1 : Int32)) L) <|
cG (inb (i + (2 : Int32)) L) <|
cC (F_X12_soonest 0 (xs (i + (1 : Int32)).toNatClampNeg) (xs (i + (2 : Int32)).toNatClampNeg) τ) fun v222 τ223 =>
if v217 = v222 then (
cL (i + (6 : Int32)) fun v224 =>
some (.inl (v224, σ218, τ223))) else (
some (.inr (0 : Int32)))
def F_law_784 (xs : Nat → Int32) (L : Nat) (i : Int32) (σ τ : hSt) : Option ((Int32 × hSt × hSt) ⊕ Int32) :=
cG (inb (i + (1 : Int32)) L) <|
cC (F_X11_all 0 (xs (i + (1 : Int32)).toNatClampNeg) σ) fun v227 σ228 =>
cG (inb (i + (1 : Int32)) L) <|
cC (F_X12_all 0 (xs (i + (1 : Int32)).toNatClampNeg) τ) fun v231 τ232 =>
if v227 = v231 then (
cL (i + (6 : Int32)) fun v233 =>
some (.inl (v233, σ228, τ232))) else (
some (.inr (0 : Int32)))
def F_law_807 (xs : Nat → Int32) (L : Nat) (i : Int32) (σ τ : hSt) : Option ((Int32 × hSt × hSt) ⊕ Int32) :=
cG (inb (i + (1 : Int32)) L) <|
cC (F_X11_drums 0 (xs (i + (1 : Int32)).toNatClampNeg) σ) fun v236 σ237 =>
cG (inb (i + (1 : Int32)) L) <|
cC (F_X12_drums 0 (xs (i + (1 : Int32)).toNatClampNeg) τ) fun v240 τ241 =>
if v236 = v240 then (
cL (i + (6 : Int32)) fun v242 =>
some (.inl (v242, σ237, τ241))) else (
some (.inr (0 : Int32)))
def F_law_830 (xs : Nat → Int32) (L : Nat) (i : Int32) (σ τ : hSt) : Option ((Int32 × hSt × hSt) ⊕ Int32) :=
cG (inb (i + (1 : Int32)) L) <|
cG (inb (i + (2 : Int32)) L) <|
cG (inb (i + (3 : Int32)) L) <|
cC (F_X11_loophole 0 (xs (i + (1 : Int32)).toNatClampNeg) (xs (i + (2 : Int32)).toNatClampNeg) (xs (i + (3 : Int32)).toNatClampNeg) σ) fun v247 σ248 =>
cG (inb (i + (1 : Int32)) L) <|
cG (inb (i + (2 : Int32)) L) <|
cG (inb (i + (3 : Int32)) L) <|
cC (F_X12_loophole 0 (xs (i + (1 : Int32)).toNatClampNeg) (xs (i + (2 : Int32)).toNatClampNeg) (xs (i + (3 : Int32)).toNatClampNeg) τ) fun v253 τ254 =>
if v247 = v253 then (
cL (i + (6 : Int32)) fun v255 =>
some (.inl (v255, σ248, τ254))) else (
some (.inr (0 : Int32)))
def F_law_873 (xs : Nat → Int32) (L : Nat) (i : Int32) (σ τ : hSt) : Option ((Int32 × hSt × hSt) ⊕ Int32) :=
cG (inb (i + (1 : Int32)) L) <|
cG (inb (i + (2 : Int32)) L) <|
cG (inb (i + (3 : Int32)) L) <|
cG (inb (i + (4 : Int32)) L) <|
cC (F_X11_loopholeAt 0 (xs (i + (1 : Int32)).toNatClampNeg) (xs (i + (2 : Int32)).toNatClampNeg) (xs (i + (3 : Int32)).toNatClampNeg) (xs (i + (4 : Int32)).toNatClampNeg) σ) fun v261 σ262 =>
cG (inb (i + (1 : Int32)) L) <|
cG (inb (i + (2 : Int32)) L) <|
cG (inb (i + (3 : Int32)) L) <|
cG (inb (i + (4 : Int32)) L) <|
cC (F_X12_loopholeAt 0 (xs (i + (1 : Int32)).toNatClampNeg) (xs (i + (2 : Int32)).toNatClampNeg) (xs (i + (3 : Int32)).toNatClampNeg) (xs (i + (4 : Int32)).toNatClampNeg) τ) fun v268 τ269 =>
if v261 = v268 then (
cL (i + (6 : Int32)) fun v270 =>
some (.inl (v270, σ262, τ269))) else (
some (.inr (0 : Int32)))
def F_law_926 (xs : Nat → Int32) (L : Nat) (i : Int32) (σ τ : hSt) : Option ((Int32 × hSt × hSt) ⊕ Int32) :=
cG (inb (i + (1 : Int32)) L) <|
(F_X11_clashes 0 (xs (i + (1 : Int32)).toNatClampNeg) σ).bind fun v273 =>
cG (inb (i + (1 : Int32)) L) <|
(F_X12_clashes 0 (xs (i + (1 : Int32)).toNatClampNeg) τ).bind fun v276 =>
if v273 = v276 then (
cL (i + (6 : Int32)) fun v277 =>
some (.inl (v277, σ, τ))) else (
some (.inr (0 : Int32)))
def F_law_949 (xs : Nat → Int32) (L : Nat) (i : Int32) (σ τ : hSt) : Option ((Int32 × hSt × hSt) ⊕ Int32) :=
cG (inb (i + (1 : Int32)) L) <|
cG (inb (i + (2 : Int32)) L) <|
cG (inb (i + (3 : Int32)) L) <|
cG (inb (i + (4 : Int32)) L) <|
(F_X11_sure 0 (xs (i + (1 : Int32)).toNatClampNeg) (xs (i + (2 : Int32)).toNatClampNeg) (xs (i + (3 : Int32)).toNatClampNeg) (xs (i + (4 : Int32)).toNatClampNeg) σ).bind fun v283 =>
cG (inb (i + (1 : Int32)) L) <|
cG (inb (i + (2 : Int32)) L) <|
cG (inb (i + (3 : Int32)) L) <|
cG (inb (i + (4 : Int32)) L) <|
(F_X12_sure 0 (xs (i + (1 : Int32)).toNatClampNeg) (xs (i + (2 : Int32)).toNatClampNeg) (xs (i + (3 : Int32)).toNatClampNeg) (xs (i + (4 : Int32)).toNatClampNeg) τ).bind fun v289 =>
if v283 = v289 then (
cL (i + (6 : Int32)) fun v290 =>
some (.inl (v290, σ, τ))) else (
some (.inr (0 : Int32)))
def F_law_1002 (xs : Nat → Int32) (L : Nat) (i : Int32) (σ τ : hSt) : Option ((Int32 × hSt × hSt) ⊕ Int32) :=
cG (inb (i + (1 : Int32)) L) <|
cG (inb (i + (2 : Int32)) L) <|
cG (inb (i + (3 : Int32)) L) <|
cC (F_X11_tell 0 (xs (i + (1 : Int32)).toNatClampNeg) (xs (i + (2 : Int32)).toNatClampNeg) (xs (i + (3 : Int32)).toNatClampNeg) σ) fun v295 σ296 =>
cG (inb (i + (1 : Int32)) L) <|
cG (inb (i + (2 : Int32)) L) <|
cG (inb (i + (3 : Int32)) L) <|
cC (F_X12_tell_ 0 (xs (i + (1 : Int32)).toNatClampNeg) (xs (i + (2 : Int32)).toNatClampNeg) (xs (i + (3 : Int32)).toNatClampNeg) τ) fun v301 τ302 =>
if v295 = v301 then (
cL (i + (6 : Int32)) fun v303 =>
some (.inl (v303, σ296, τ302))) else (
some (.inr (0 : Int32)))
def F_law_1045 (xs : Nat → Int32) (L : Nat) (i : Int32) (σ τ : hSt) : Option ((Int32 × hSt × hSt) ⊕ Int32) :=
cC (F_X11_forget 0  σ) fun v305 σ306 =>
cC (F_X12_forget 0  τ) fun v308 τ309 =>
if v305 = v308 then (
cL (i + (6 : Int32)) fun v310 =>
some (.inl (v310, σ306, τ309))) else (
some (.inr (0 : Int32)))
def F_law_1058 (xs : Nat → Int32) (L : Nat) (i : Int32) (σ τ : hSt) : Option ((Int32 × hSt × hSt) ⊕ Int32) :=
cG (inb (i + (1 : Int32)) L) <|
cG (inb (i + (2 : Int32)) L) <|
cC (F_X11_beginners 0 (xs (i + (1 : Int32)).toNatClampNeg) (xs (i + (2 : Int32)).toNatClampNeg) σ) fun v314 σ315 =>
cG (inb (i + (1 : Int32)) L) <|
cG (inb (i + (2 : Int32)) L) <|
cC (F_X12_beginners 0 (xs (i + (1 : Int32)).toNatClampNeg) (xs (i + (2 : Int32)).toNatClampNeg) τ) fun v319 τ320 =>
if v314 = v319 then (
cL (i + (6 : Int32)) fun v321 =>
some (.inl (v321, σ315, τ320))) else (
some (.inr (0 : Int32)))
def F_law_1091 (xs : Nat → Int32) (L : Nat) (i : Int32) (σ τ : hSt) : Option ((Int32 × hSt × hSt) ⊕ Int32) :=
cG (inb (i + (1 : Int32)) L) <|
cC (F_X11_hold 0 (xs (i + (1 : Int32)).toNatClampNeg) σ) fun v324 σ325 =>
cG (inb (i + (1 : Int32)) L) <|
cC (F_X12_hold 0 (xs (i + (1 : Int32)).toNatClampNeg) τ) fun v328 τ329 =>
if v324 = v328 then (
cL (i + (6 : Int32)) fun v330 =>
some (.inl (v330, σ325, τ329))) else (
some (.inr (0 : Int32)))
def F_law_1114 (xs : Nat → Int32) (L : Nat) (i : Int32) (σ τ : hSt) : Option ((Int32 × hSt × hSt) ⊕ Int32) :=
cG (inb (i + (1 : Int32)) L) <|
cC (F_X11_restore 0 (xs (i + (1 : Int32)).toNatClampNeg) σ) fun v333 σ334 =>
cG (inb (i + (1 : Int32)) L) <|
cC (F_X12_restore 0 (xs (i + (1 : Int32)).toNatClampNeg) τ) fun v337 τ338 =>
if v333 = v337 then (
cL (i + (6 : Int32)) fun v339 =>
some (.inl (v339, σ334, τ338))) else (
some (.inr (0 : Int32)))
def F_law_1137 (xs : Nat → Int32) (L : Nat) (i : Int32) (σ τ : hSt) : Option ((Int32 × hSt × hSt) ⊕ Int32) :=
cG (inb (i + (1 : Int32)) L) <|
(F_X11_count 0 (xs (i + (1 : Int32)).toNatClampNeg) σ).bind fun v342 =>
cG (inb (i + (1 : Int32)) L) <|
(F_X12_count 0 (xs (i + (1 : Int32)).toNatClampNeg) τ).bind fun v345 =>
if v342 = v345 then (
cL (i + (6 : Int32)) fun v346 =>
some (.inl (v346, σ, τ))) else (
some (.inr (0 : Int32)))
def F_law_18 (xs : Nat → Int32) (L : Nat) (i : Int32) (σ τ : hSt) : Option ((Int32 × hSt × hSt) ⊕ Int32) :=
if ((Int32.ofNat L) - (6 : Int32)) < i then (
some (.inr (1 : Int32))) else (
cG (inb i L) <|
cL ((xs i.toNatClampNeg) &&& (31 : Int32)) fun v348 =>
if v348 = (0 : Int32) then (
cG (inb (i + (1 : Int32)) L) <|
cG (inb (i + (2 : Int32)) L) <|
cG (inb (i + (3 : Int32)) L) <|
cG (inb (i + (4 : Int32)) L) <|
cG (inb (i + (5 : Int32)) L) <|
cC (F_X11_feed 0 (xs (i + (1 : Int32)).toNatClampNeg) (xs (i + (2 : Int32)).toNatClampNeg) (xs (i + (3 : Int32)).toNatClampNeg) (xs (i + (4 : Int32)).toNatClampNeg) (xs (i + (5 : Int32)).toNatClampNeg) σ) fun v355 σ356 =>
cG (inb (i + (1 : Int32)) L) <|
cG (inb (i + (2 : Int32)) L) <|
cG (inb (i + (3 : Int32)) L) <|
cG (inb (i + (4 : Int32)) L) <|
cG (inb (i + (5 : Int32)) L) <|
cC (F_X12_feed 0 (xs (i + (1 : Int32)).toNatClampNeg) (xs (i + (2 : Int32)).toNatClampNeg) (xs (i + (3 : Int32)).toNatClampNeg) (xs (i + (4 : Int32)).toNatClampNeg) (xs (i + (5 : Int32)).toNatClampNeg) τ) fun v363 τ364 =>
if v355 = v363 then (
cL (i + (6 : Int32)) fun v365 =>
some (.inl (v365, σ356, τ364))) else (
some (.inr (0 : Int32)))) else (
if v348 = (1 : Int32) then (
cG (inb (i + (1 : Int32)) L) <|
cC (F_X11_back 0 (xs (i + (1 : Int32)).toNatClampNeg) σ) fun v368 σ369 =>
cG (inb (i + (1 : Int32)) L) <|
cC (F_X12_back 0 (xs (i + (1 : Int32)).toNatClampNeg) τ) fun v372 τ373 =>
if v368 = v372 then (
cL (i + (6 : Int32)) fun v374 =>
some (.inl (v374, σ369, τ373))) else (
some (.inr (0 : Int32)))) else (
if v348 = (2 : Int32) then (
cC (F_X11_read 0  σ) fun v376 σ377 =>
cC (F_X12_read 0  τ) fun v379 τ380 =>
if v376 = v379 then (
cL (i + (6 : Int32)) fun v381 =>
some (.inl (v381, σ377, τ380))) else (
some (.inr (0 : Int32)))) else (
if v348 = (3 : Int32) then (
(F_X11_place 0  σ).bind fun v383 =>
(F_X12_place 0  τ).bind fun v385 =>
if v383 = v385 then (
cL (i + (6 : Int32)) fun v386 =>
some (.inl (v386, σ, τ))) else (
some (.inr (0 : Int32)))) else (
if v348 = (4 : Int32) then (
cG (inb (i + (1 : Int32)) L) <|
cG (inb (i + (2 : Int32)) L) <|
cG (inb (i + (3 : Int32)) L) <|
cC (F_X11_hears 0 (xs (i + (1 : Int32)).toNatClampNeg) (xs (i + (2 : Int32)).toNatClampNeg) (xs (i + (3 : Int32)).toNatClampNeg) σ) fun v391 σ392 =>
cG (inb (i + (1 : Int32)) L) <|
cG (inb (i + (2 : Int32)) L) <|
cG (inb (i + (3 : Int32)) L) <|
cC (F_X12_hears 0 (xs (i + (1 : Int32)).toNatClampNeg) (xs (i + (2 : Int32)).toNatClampNeg) (xs (i + (3 : Int32)).toNatClampNeg) τ) fun v397 τ398 =>
if v391 = v397 then (
cL (i + (6 : Int32)) fun v399 =>
some (.inl (v399, σ392, τ398))) else (
some (.inr (0 : Int32)))) else (
if v348 = (5 : Int32) then (
cG (inb (i + (1 : Int32)) L) <|
cG (inb (i + (2 : Int32)) L) <|
cG (inb (i + (3 : Int32)) L) <|
(F_X11_news 0 (xs (i + (1 : Int32)).toNatClampNeg) (xs (i + (2 : Int32)).toNatClampNeg) (xs (i + (3 : Int32)).toNatClampNeg) σ).bind fun v404 =>
cG (inb (i + (1 : Int32)) L) <|
cG (inb (i + (2 : Int32)) L) <|
cG (inb (i + (3 : Int32)) L) <|
(F_X12_news 0 (xs (i + (1 : Int32)).toNatClampNeg) (xs (i + (2 : Int32)).toNatClampNeg) (xs (i + (3 : Int32)).toNatClampNeg) τ).bind fun v409 =>
if v404 = v409 then (
cL (i + (6 : Int32)) fun v410 =>
some (.inl (v410, σ, τ))) else (
some (.inr (0 : Int32)))) else (
if v348 = (6 : Int32) then (
cG (inb (i + (1 : Int32)) L) <|
cG (inb (i + (2 : Int32)) L) <|
cG (inb (i + (3 : Int32)) L) <|
if (xs (i + (3 : Int32)).toNatClampNeg) = 0 then (
cC (F_X11_drum 0 (xs (i + (1 : Int32)).toNatClampNeg) (xs (i + (2 : Int32)).toNatClampNeg) (0 : Int32) σ) fun v415 σ416 =>
cG (inb (i + (1 : Int32)) L) <|
cG (inb (i + (2 : Int32)) L) <|
cG (inb (i + (3 : Int32)) L) <|
if (xs (i + (3 : Int32)).toNatClampNeg) = 0 then (
cC (F_X12_drum 0 (xs (i + (1 : Int32)).toNatClampNeg) (xs (i + (2 : Int32)).toNatClampNeg) (0 : Int32) τ) fun v421 τ422 =>
if v415 = v421 then (
cL (i + (6 : Int32)) fun v423 =>
some (.inl (v423, σ416, τ422))) else (
some (.inr (0 : Int32)))) else (
cC (F_X12_drum 0 (xs (i + (1 : Int32)).toNatClampNeg) (xs (i + (2 : Int32)).toNatClampNeg) (1 : Int32) τ) fun v425 τ426 =>
if v415 = v425 then (
cL (i + (6 : Int32)) fun v427 =>
some (.inl (v427, σ416, τ426))) else (
some (.inr (0 : Int32))))) else (
cC (F_X11_drum 0 (xs (i + (1 : Int32)).toNatClampNeg) (xs (i + (2 : Int32)).toNatClampNeg) (1 : Int32) σ) fun v429 σ430 =>
cG (inb (i + (1 : Int32)) L) <|
cG (inb (i + (2 : Int32)) L) <|
cG (inb (i + (3 : Int32)) L) <|
if (xs (i + (3 : Int32)).toNatClampNeg) = 0 then (
cC (F_X12_drum 0 (xs (i + (1 : Int32)).toNatClampNeg) (xs (i + (2 : Int32)).toNatClampNeg) (0 : Int32) τ) fun v435 τ436 =>
if v429 = v435 then (
cL (i + (6 : Int32)) fun v437 =>
some (.inl (v437, σ430, τ436))) else (
some (.inr (0 : Int32)))) else (
cC (F_X12_drum 0 (xs (i + (1 : Int32)).toNatClampNeg) (xs (i + (2 : Int32)).toNatClampNeg) (1 : Int32) τ) fun v439 τ440 =>
if v429 = v439 then (
cL (i + (6 : Int32)) fun v441 =>
some (.inl (v441, σ430, τ440))) else (
some (.inr (0 : Int32)))))) else (
if v348 = (7 : Int32) then (
cG (inb (i + (1 : Int32)) L) <|
cG (inb (i + (2 : Int32)) L) <|
cG (inb (i + (3 : Int32)) L) <|
if (xs (i + (3 : Int32)).toNatClampNeg) = 0 then (
(F_X11_may 0 (xs (i + (1 : Int32)).toNatClampNeg) (xs (i + (2 : Int32)).toNatClampNeg) (0 : Int32) σ).bind fun v446 =>
cG (inb (i + (1 : Int32)) L) <|
cG (inb (i + (2 : Int32)) L) <|
cG (inb (i + (3 : Int32)) L) <|
if (xs (i + (3 : Int32)).toNatClampNeg) = 0 then (
cC (F_X12_may 0 (xs (i + (1 : Int32)).toNatClampNeg) (xs (i + (2 : Int32)).toNatClampNeg) (0 : Int32) τ) fun v451 τ452 =>
if v446 = v451 then (
cL (i + (6 : Int32)) fun v453 =>
some (.inl (v453, σ, τ452))) else (
some (.inr (0 : Int32)))) else (
cC (F_X12_may 0 (xs (i + (1 : Int32)).toNatClampNeg) (xs (i + (2 : Int32)).toNatClampNeg) (1 : Int32) τ) fun v455 τ456 =>
if v446 = v455 then (
cL (i + (6 : Int32)) fun v457 =>
some (.inl (v457, σ, τ456))) else (
some (.inr (0 : Int32))))) else (
(F_X11_may 0 (xs (i + (1 : Int32)).toNatClampNeg) (xs (i + (2 : Int32)).toNatClampNeg) (1 : Int32) σ).bind fun v459 =>
cG (inb (i + (1 : Int32)) L) <|
cG (inb (i + (2 : Int32)) L) <|
cG (inb (i + (3 : Int32)) L) <|
if (xs (i + (3 : Int32)).toNatClampNeg) = 0 then (
cC (F_X12_may 0 (xs (i + (1 : Int32)).toNatClampNeg) (xs (i + (2 : Int32)).toNatClampNeg) (0 : Int32) τ) fun v464 τ465 =>
if v459 = v464 then (
cL (i + (6 : Int32)) fun v466 =>
some (.inl (v466, σ, τ465))) else (
some (.inr (0 : Int32)))) else (
cC (F_X12_may 0 (xs (i + (1 : Int32)).toNatClampNeg) (xs (i + (2 : Int32)).toNatClampNeg) (1 : Int32) τ) fun v468 τ469 =>
if v459 = v468 then (
cL (i + (6 : Int32)) fun v470 =>
some (.inl (v470, σ, τ469))) else (
some (.inr (0 : Int32)))))) else (
if v348 = (8 : Int32) then (
cG (inb (i + (1 : Int32)) L) <|
cG (inb (i + (2 : Int32)) L) <|
(F_X11_drummed 0 (xs (i + (1 : Int32)).toNatClampNeg) (xs (i + (2 : Int32)).toNatClampNeg) σ).bind fun v474 =>
cG (inb (i + (1 : Int32)) L) <|
cG (inb (i + (2 : Int32)) L) <|
(F_X12_drummed 0 (xs (i + (1 : Int32)).toNatClampNeg) (xs (i + (2 : Int32)).toNatClampNeg) τ).bind fun v478 =>
if v474 = v478 then (
cL (i + (6 : Int32)) fun v479 =>
some (.inl (v479, σ, τ))) else (
some (.inr (0 : Int32)))) else (
if v348 = (9 : Int32) then (
cC (F_X11_night 0  σ) fun v481 σ482 =>
cC (F_X12_night 0  τ) fun v484 τ485 =>
if v481 = v484 then (
cL (i + (6 : Int32)) fun v486 =>
some (.inl (v486, σ482, τ485))) else (
some (.inr (0 : Int32)))) else (
if v348 = (10 : Int32) then (
cG (inb (i + (1 : Int32)) L) <|
cC (F_X11_run 0 (xs (i + (1 : Int32)).toNatClampNeg) σ) fun v489 σ490 =>
cG (inb (i + (1 : Int32)) L) <|
cC (F_X12_run 0 (xs (i + (1 : Int32)).toNatClampNeg) τ) fun v493 τ494 =>
if v489 = v493 then (
cL (i + (6 : Int32)) fun v495 =>
some (.inl (v495, σ490, τ494))) else (
some (.inr (0 : Int32)))) else (
if v348 = (11 : Int32) then (
cC (F_X11_undo 0  σ) fun v497 σ498 =>
cC (F_X12_undo 0  τ) fun v500 τ501 =>
if v497 = v500 then (
cL (i + (6 : Int32)) fun v502 =>
some (.inl (v502, σ498, τ501))) else (
some (.inr (0 : Int32)))) else (
if v348 = (12 : Int32) then (
cG (inb (i + (1 : Int32)) L) <|
cG (inb (i + (2 : Int32)) L) <|
cC (F_X11_byRule 0 (xs (i + (1 : Int32)).toNatClampNeg) (xs (i + (2 : Int32)).toNatClampNeg) σ) fun v506 σ507 =>
cG (inb (i + (1 : Int32)) L) <|
cG (inb (i + (2 : Int32)) L) <|
cC (F_X12_byRule 0 (xs (i + (1 : Int32)).toNatClampNeg) (xs (i + (2 : Int32)).toNatClampNeg) τ) fun v511 τ512 =>
if v506 = v511 then (
cL (i + (6 : Int32)) fun v513 =>
some (.inl (v513, σ507, τ512))) else (
some (.inr (0 : Int32)))) else (
if v348 = (13 : Int32) then (
cG (inb (i + (1 : Int32)) L) <|
cG (inb (i + (2 : Int32)) L) <|
cG (inb (i + (3 : Int32)) L) <|
cG (inb (i + (4 : Int32)) L) <|
cC (F_X11_agreed 0 (xs (i + (1 : Int32)).toNatClampNeg) (xs (i + (2 : Int32)).toNatClampNeg) (xs (i + (3 : Int32)).toNatClampNeg) (xs (i + (4 : Int32)).toNatClampNeg) σ) fun v519 σ520 =>
cG (inb (i + (1 : Int32)) L) <|
cG (inb (i + (2 : Int32)) L) <|
cG (inb (i + (3 : Int32)) L) <|
cG (inb (i + (4 : Int32)) L) <|
cC (F_X12_agreed 0 (xs (i + (1 : Int32)).toNatClampNeg) (xs (i + (2 : Int32)).toNatClampNeg) (xs (i + (3 : Int32)).toNatClampNeg) (xs (i + (4 : Int32)).toNatClampNeg) τ) fun v526 τ527 =>
if v519 = v526 then (
cL (i + (6 : Int32)) fun v528 =>
some (.inl (v528, σ520, τ527))) else (
some (.inr (0 : Int32)))) else (
if v348 = (14 : Int32) then (
cG (inb (i + (1 : Int32)) L) <|
cC (F_X11_talk 0 (xs (i + (1 : Int32)).toNatClampNeg) σ) fun v531 σ532 =>
cG (inb (i + (1 : Int32)) L) <|
cC (F_X12_talk 0 (xs (i + (1 : Int32)).toNatClampNeg) τ) fun v535 τ536 =>
if v531 = v535 then (
cL (i + (6 : Int32)) fun v537 =>
some (.inl (v537, σ532, τ536))) else (
some (.inr (0 : Int32)))) else (
if v348 = (15 : Int32) then (
cG (inb (i + (1 : Int32)) L) <|
cG (inb (i + (2 : Int32)) L) <|
cC (F_X11_bestOrder 0 (xs (i + (1 : Int32)).toNatClampNeg) (xs (i + (2 : Int32)).toNatClampNeg) σ) fun v541 σ542 =>
cG (inb (i + (1 : Int32)) L) <|
cG (inb (i + (2 : Int32)) L) <|
cC (F_X12_bestOrder 0 (xs (i + (1 : Int32)).toNatClampNeg) (xs (i + (2 : Int32)).toNatClampNeg) τ) fun v546 τ547 =>
if v541 = v546 then (
cL (i + (6 : Int32)) fun v548 =>
some (.inl (v548, σ542, τ547))) else (
some (.inr (0 : Int32)))) else (
if v348 = (16 : Int32) then (
cG (inb (i + (1 : Int32)) L) <|
cG (inb (i + (2 : Int32)) L) <|
cG (inb (i + (3 : Int32)) L) <|
cC (F_X11_quiet 0 (xs (i + (1 : Int32)).toNatClampNeg) (xs (i + (2 : Int32)).toNatClampNeg) (xs (i + (3 : Int32)).toNatClampNeg) σ) fun v553 σ554 =>
cG (inb (i + (1 : Int32)) L) <|
cG (inb (i + (2 : Int32)) L) <|
cG (inb (i + (3 : Int32)) L) <|
cC (F_X12_quiet 0 (xs (i + (1 : Int32)).toNatClampNeg) (xs (i + (2 : Int32)).toNatClampNeg) (xs (i + (3 : Int32)).toNatClampNeg) τ) fun v559 τ560 =>
if v553 = v559 then (
cL (i + (6 : Int32)) fun v561 =>
some (.inl (v561, σ554, τ560))) else (
some (.inr (0 : Int32)))) else (
if v348 = (17 : Int32) then (
cG (inb (i + (1 : Int32)) L) <|
cG (inb (i + (2 : Int32)) L) <|
cC (F_X11_soonest 0 (xs (i + (1 : Int32)).toNatClampNeg) (xs (i + (2 : Int32)).toNatClampNeg) σ) fun v565 σ566 =>
cG (inb (i + (1 : Int32)) L) <|
cG (inb (i + (2 : Int32)) L) <|
cC (F_X12_soonest 0 (xs (i + (1 : Int32)).toNatClampNeg) (xs (i + (2 : Int32)).toNatClampNeg) τ) fun v570 τ571 =>
if v565 = v570 then (
cL (i + (6 : Int32)) fun v572 =>
some (.inl (v572, σ566, τ571))) else (
some (.inr (0 : Int32)))) else (
if v348 = (18 : Int32) then (
cG (inb (i + (1 : Int32)) L) <|
cC (F_X11_all 0 (xs (i + (1 : Int32)).toNatClampNeg) σ) fun v575 σ576 =>
cG (inb (i + (1 : Int32)) L) <|
cC (F_X12_all 0 (xs (i + (1 : Int32)).toNatClampNeg) τ) fun v579 τ580 =>
if v575 = v579 then (
cL (i + (6 : Int32)) fun v581 =>
some (.inl (v581, σ576, τ580))) else (
some (.inr (0 : Int32)))) else (
if v348 = (19 : Int32) then (
cG (inb (i + (1 : Int32)) L) <|
cC (F_X11_drums 0 (xs (i + (1 : Int32)).toNatClampNeg) σ) fun v584 σ585 =>
cG (inb (i + (1 : Int32)) L) <|
cC (F_X12_drums 0 (xs (i + (1 : Int32)).toNatClampNeg) τ) fun v588 τ589 =>
if v584 = v588 then (
cL (i + (6 : Int32)) fun v590 =>
some (.inl (v590, σ585, τ589))) else (
some (.inr (0 : Int32)))) else (
if v348 = (20 : Int32) then (
cG (inb (i + (1 : Int32)) L) <|
cG (inb (i + (2 : Int32)) L) <|
cG (inb (i + (3 : Int32)) L) <|
cC (F_X11_loophole 0 (xs (i + (1 : Int32)).toNatClampNeg) (xs (i + (2 : Int32)).toNatClampNeg) (xs (i + (3 : Int32)).toNatClampNeg) σ) fun v595 σ596 =>
cG (inb (i + (1 : Int32)) L) <|
cG (inb (i + (2 : Int32)) L) <|
cG (inb (i + (3 : Int32)) L) <|
cC (F_X12_loophole 0 (xs (i + (1 : Int32)).toNatClampNeg) (xs (i + (2 : Int32)).toNatClampNeg) (xs (i + (3 : Int32)).toNatClampNeg) τ) fun v601 τ602 =>
if v595 = v601 then (
cL (i + (6 : Int32)) fun v603 =>
some (.inl (v603, σ596, τ602))) else (
some (.inr (0 : Int32)))) else (
if v348 = (21 : Int32) then (
cG (inb (i + (1 : Int32)) L) <|
cG (inb (i + (2 : Int32)) L) <|
cG (inb (i + (3 : Int32)) L) <|
cG (inb (i + (4 : Int32)) L) <|
cC (F_X11_loopholeAt 0 (xs (i + (1 : Int32)).toNatClampNeg) (xs (i + (2 : Int32)).toNatClampNeg) (xs (i + (3 : Int32)).toNatClampNeg) (xs (i + (4 : Int32)).toNatClampNeg) σ) fun v609 σ610 =>
cG (inb (i + (1 : Int32)) L) <|
cG (inb (i + (2 : Int32)) L) <|
cG (inb (i + (3 : Int32)) L) <|
cG (inb (i + (4 : Int32)) L) <|
cC (F_X12_loopholeAt 0 (xs (i + (1 : Int32)).toNatClampNeg) (xs (i + (2 : Int32)).toNatClampNeg) (xs (i + (3 : Int32)).toNatClampNeg) (xs (i + (4 : Int32)).toNatClampNeg) τ) fun v616 τ617 =>
if v609 = v616 then (
cL (i + (6 : Int32)) fun v618 =>
some (.inl (v618, σ610, τ617))) else (
some (.inr (0 : Int32)))) else (
if v348 = (22 : Int32) then (
cG (inb (i + (1 : Int32)) L) <|
(F_X11_clashes 0 (xs (i + (1 : Int32)).toNatClampNeg) σ).bind fun v621 =>
cG (inb (i + (1 : Int32)) L) <|
(F_X12_clashes 0 (xs (i + (1 : Int32)).toNatClampNeg) τ).bind fun v624 =>
if v621 = v624 then (
cL (i + (6 : Int32)) fun v625 =>
some (.inl (v625, σ, τ))) else (
some (.inr (0 : Int32)))) else (
if v348 = (23 : Int32) then (
cG (inb (i + (1 : Int32)) L) <|
cG (inb (i + (2 : Int32)) L) <|
cG (inb (i + (3 : Int32)) L) <|
cG (inb (i + (4 : Int32)) L) <|
(F_X11_sure 0 (xs (i + (1 : Int32)).toNatClampNeg) (xs (i + (2 : Int32)).toNatClampNeg) (xs (i + (3 : Int32)).toNatClampNeg) (xs (i + (4 : Int32)).toNatClampNeg) σ).bind fun v631 =>
cG (inb (i + (1 : Int32)) L) <|
cG (inb (i + (2 : Int32)) L) <|
cG (inb (i + (3 : Int32)) L) <|
cG (inb (i + (4 : Int32)) L) <|
(F_X12_sure 0 (xs (i + (1 : Int32)).toNatClampNeg) (xs (i + (2 : Int32)).toNatClampNeg) (xs (i + (3 : Int32)).toNatClampNeg) (xs (i + (4 : Int32)).toNatClampNeg) τ).bind fun v637 =>
if v631 = v637 then (
cL (i + (6 : Int32)) fun v638 =>
some (.inl (v638, σ, τ))) else (
some (.inr (0 : Int32)))) else (
if v348 = (24 : Int32) then (
cG (inb (i + (1 : Int32)) L) <|
cG (inb (i + (2 : Int32)) L) <|
cG (inb (i + (3 : Int32)) L) <|
cC (F_X11_tell 0 (xs (i + (1 : Int32)).toNatClampNeg) (xs (i + (2 : Int32)).toNatClampNeg) (xs (i + (3 : Int32)).toNatClampNeg) σ) fun v643 σ644 =>
cG (inb (i + (1 : Int32)) L) <|
cG (inb (i + (2 : Int32)) L) <|
cG (inb (i + (3 : Int32)) L) <|
cC (F_X12_tell_ 0 (xs (i + (1 : Int32)).toNatClampNeg) (xs (i + (2 : Int32)).toNatClampNeg) (xs (i + (3 : Int32)).toNatClampNeg) τ) fun v649 τ650 =>
if v643 = v649 then (
cL (i + (6 : Int32)) fun v651 =>
some (.inl (v651, σ644, τ650))) else (
some (.inr (0 : Int32)))) else (
if v348 = (25 : Int32) then (
cC (F_X11_forget 0  σ) fun v653 σ654 =>
cC (F_X12_forget 0  τ) fun v656 τ657 =>
if v653 = v656 then (
cL (i + (6 : Int32)) fun v658 =>
some (.inl (v658, σ654, τ657))) else (
some (.inr (0 : Int32)))) else (
if v348 = (26 : Int32) then (
cG (inb (i + (1 : Int32)) L) <|
cG (inb (i + (2 : Int32)) L) <|
cC (F_X11_beginners 0 (xs (i + (1 : Int32)).toNatClampNeg) (xs (i + (2 : Int32)).toNatClampNeg) σ) fun v662 σ663 =>
cG (inb (i + (1 : Int32)) L) <|
cG (inb (i + (2 : Int32)) L) <|
cC (F_X12_beginners 0 (xs (i + (1 : Int32)).toNatClampNeg) (xs (i + (2 : Int32)).toNatClampNeg) τ) fun v667 τ668 =>
if v662 = v667 then (
cL (i + (6 : Int32)) fun v669 =>
some (.inl (v669, σ663, τ668))) else (
some (.inr (0 : Int32)))) else (
if v348 = (27 : Int32) then (
cG (inb (i + (1 : Int32)) L) <|
cC (F_X11_hold 0 (xs (i + (1 : Int32)).toNatClampNeg) σ) fun v672 σ673 =>
cG (inb (i + (1 : Int32)) L) <|
cC (F_X12_hold 0 (xs (i + (1 : Int32)).toNatClampNeg) τ) fun v676 τ677 =>
if v672 = v676 then (
cL (i + (6 : Int32)) fun v678 =>
some (.inl (v678, σ673, τ677))) else (
some (.inr (0 : Int32)))) else (
if v348 = (28 : Int32) then (
cG (inb (i + (1 : Int32)) L) <|
cC (F_X11_restore 0 (xs (i + (1 : Int32)).toNatClampNeg) σ) fun v681 σ682 =>
cG (inb (i + (1 : Int32)) L) <|
cC (F_X12_restore 0 (xs (i + (1 : Int32)).toNatClampNeg) τ) fun v685 τ686 =>
if v681 = v685 then (
cL (i + (6 : Int32)) fun v687 =>
some (.inl (v687, σ682, τ686))) else (
some (.inr (0 : Int32)))) else (
if v348 = (29 : Int32) then (
cG (inb (i + (1 : Int32)) L) <|
(F_X11_count 0 (xs (i + (1 : Int32)).toNatClampNeg) σ).bind fun v690 =>
cG (inb (i + (1 : Int32)) L) <|
(F_X12_count 0 (xs (i + (1 : Int32)).toNatClampNeg) τ).bind fun v693 =>
if v690 = v693 then (
cL (i + (6 : Int32)) fun v694 =>
some (.inl (v694, σ, τ))) else (
some (.inr (0 : Int32)))) else (
cL (i + (6 : Int32)) fun v695 =>
some (.inl (v695, σ, τ)))))))))))))))))))))))))))))))))
def S_law (xs : Nat → Int32) (L : Nat) (v : Int32 × hSt × hSt) : Option ((Int32 × hSt × hSt) ⊕ Int32) := F_law_18 xs L v.1 v.2.1 v.2.2
section
variable {p : Program} {l : Launch} {e : Env} {s : State} {m : MethodId} {below : List Frame} {meth : Method} {c : Code} {D : va_G} {ay : Nat → ClassId} {ad1 ad2 : Nat → Nat} {b L : Nat} {xs : Nat → Int32}
set_option maxRecDepth 100000 in
set_option maxHeartbeats 8000000 in
theorem B_law_168 {H : Heap} {locs : List Loc} {ls : Array Slot} {o : (Int32 × hSt × hSt) ⊕ Int32} (X : LC p s m meth c D ay ad1 ad2 b L xs) (i : Int32) (σ τ : hSt) (hf : F_law_168 xs L i σ τ = some o) (hb : ∀ (v : Int32 × hSt × hSt), o = .inl v → ∀ (H : Heap) (locs : List Loc) (ls : Array Slot), WL D ay ad1 ad2 s v.2.1 v.2.2 H locs → lv_has ls 4 [(0, .ref b), (1, .ref (ad1 0)), (2, .ref (ad2 0)), (3, .int v.1)] → W p l e room_1 s m #[Value.ref b] below meth c H locs 293 37911 (lw_Z below #[Value.ref b] s) (F0 m 18 ls [])) (hr : ∀ x, o = .inr x → x = 1) (w : WL D ay ad1 ad2 s σ τ H locs) (hl : lv_has ls 4 [(0, .ref b), (1, .ref (ad1 0)), (2, .ref (ad2 0)), (3, .int i)]) : W p l e room_1 s m #[Value.ref b] below meth c H locs 293 37911 (lw_Z below #[Value.ref b] s) (F0 m 168 ls []) := by
  unfold F_law_168 at hf
  refine lv_aload_n X.1.hx X.1.hb (dcs_get dec_law_0 22 rfl) rfl (lv_at hl 1 rfl) ?_
  refine lv_aload_n X.1.hx X.1.hb (dcs_get dec_law_0 23 rfl) rfl (lv_at hl 0 rfl) ?_
  refine lv_iload_n X.1.hx X.1.hb (dcs_get dec_law_0 24 rfl) rfl (lv_at hl 3 rfl) ?_
  refine lv_iconst (v := (1 : Int32)) X.1.hx X.1.hb (dcs_get dec_law_0 25 rfl) (by decide) ?_
  refine lv_iadd X.1.hx X.1.hb (dcs_get dec_law_0 26 rfl) ?_
  obtain ⟨h1, hf⟩ := cG_some hf
  refine va_sld X.1.hx X.1.hb X.2.2.2.1 X.2.2.2.2.1 (Nat.not_le.mpr X.2.2.2.2.1) w.2.2 (inb_in h1) (dcs_get dec_law_0 27 rfl) ?_
  refine lv_aload_n X.1.hx X.1.hb (dcs_get dec_law_0 28 rfl) rfl (lv_at hl 0 rfl) ?_
  refine lv_iload_n X.1.hx X.1.hb (dcs_get dec_law_0 29 rfl) rfl (lv_at hl 3 rfl) ?_
  refine lv_iconst (v := (2 : Int32)) X.1.hx X.1.hb (dcs_get dec_law_0 30 rfl) (by decide) ?_
  refine lv_iadd X.1.hx X.1.hb (dcs_get dec_law_0 31 rfl) ?_
  obtain ⟨h2, hf⟩ := cG_some hf
  refine va_sld X.1.hx X.1.hb X.2.2.2.1 X.2.2.2.2.1 (Nat.not_le.mpr X.2.2.2.2.1) w.2.2 (inb_in h2) (dcs_get dec_law_0 32 rfl) ?_
  refine lv_aload_n X.1.hx X.1.hb (dcs_get dec_law_0 33 rfl) rfl (lv_at hl 0 rfl) ?_
  refine lv_iload_n X.1.hx X.1.hb (dcs_get dec_law_0 34 rfl) rfl (lv_at hl 3 rfl) ?_
  refine lv_iconst (v := (3 : Int32)) X.1.hx X.1.hb (dcs_get dec_law_0 35 rfl) (by decide) ?_
  refine lv_iadd X.1.hx X.1.hb (dcs_get dec_law_0 36 rfl) ?_
  obtain ⟨h3, hf⟩ := cG_some hf
  refine va_sld X.1.hx X.1.hb X.2.2.2.1 X.2.2.2.2.1 (Nat.not_le.mpr X.2.2.2.2.1) w.2.2 (inb_in h3) (dcs_get dec_law_0 37 rfl) ?_
  refine lv_aload_n X.1.hx X.1.hb (dcs_get dec_law_0 38 rfl) rfl (lv_at hl 0 rfl) ?_
  refine lv_iload_n X.1.hx X.1.hb (dcs_get dec_law_0 39 rfl) rfl (lv_at hl 3 rfl) ?_
  refine lv_iconst (v := (4 : Int32)) X.1.hx X.1.hb (dcs_get dec_law_1 0 rfl) (by decide) ?_
  refine lv_iadd X.1.hx X.1.hb (dcs_get dec_law_1 1 rfl) ?_
  obtain ⟨h4, hf⟩ := cG_some hf
  refine va_sld X.1.hx X.1.hb X.2.2.2.1 X.2.2.2.2.1 (Nat.not_le.mpr X.2.2.2.2.1) w.2.2 (inb_in h4) (dcs_get dec_law_1 2 rfl) ?_
  refine lv_aload_n X.1.hx X.1.hb (dcs_get dec_law_1 3 rfl) rfl (lv_at hl 0 rfl) ?_
  refine lv_iload_n X.1.hx X.1.hb (dcs_get dec_law_1 4 rfl) rfl (lv_at hl 3 rfl) ?_
  refine lv_iconst (v := (5 : Int32)) X.1.hx X.1.hb (dcs_get dec_law_1 5 rfl) (by decide) ?_
  refine lv_iadd X.1.hx X.1.hb (dcs_get dec_law_1 6 rfl) ?_
  obtain ⟨h5, hf⟩ := cG_some hf
  refine va_sld X.1.hx X.1.hb X.2.2.2.1 X.2.2.2.2.1 (Nat.not_le.mpr X.2.2.2.2.1) w.2.2 (inb_in h5) (dcs_get dec_law_1 7 rfl) ?_
  obtain ⟨v7, σ8, h6, hf⟩ := cC_some hf
  refine a_i1 (k_V (K := kC) (c0 := 0) (As := [.int (xs (i + (1 : Int32)).toNatClampNeg), .int (xs (i + (2 : Int32)).toNatClampNeg), .int (xs (i + (3 : Int32)).toNatClampNeg), .int (xs (i + (4 : Int32)).toNatClampNeg), .int (xs (i + (5 : Int32)).toNatClampNeg)]) (rest := []) cls11 lb_X11_feed lv_X11_feed q_431 (C_X11_feed X.1.2.2.1 0 (xs (i + (1 : Int32)).toNatClampNeg) (xs (i + (2 : Int32)).toNatClampNeg) (xs (i + (3 : Int32)).toNatClampNeg) (xs (i + (4 : Int32)).toNatClampNeg) (xs (i + (5 : Int32)).toNatClampNeg) σ h6 ok11) ⟨Nat.le_of_ble_eq_true rfl, Nat.le_of_ble_eq_true rfl⟩ X.1 ⟨w.1, w.2.2⟩ (okr_in ok11).1 (okr_in ok11).2 rfl rfl hl.1 (Nat.le_of_ble_eq_true rfl) (dcs_get dec_law_1 8 rfl) ⟨Nat.le_of_ble_eq_true rfl, Nat.le_of_ble_eq_true rfl⟩) X w (fun H locs w => ?_)
  refine lv_aload_n X.1.hx X.1.hb (dcs_get dec_law_1 9 rfl) rfl (lv_at hl 2 rfl) ?_
  refine lv_aload_n X.1.hx X.1.hb (dcs_get dec_law_1 10 rfl) rfl (lv_at hl 0 rfl) ?_
  refine lv_iload_n X.1.hx X.1.hb (dcs_get dec_law_1 11 rfl) rfl (lv_at hl 3 rfl) ?_
  refine lv_iconst (v := (1 : Int32)) X.1.hx X.1.hb (dcs_get dec_law_1 12 rfl) (by decide) ?_
  refine lv_iadd X.1.hx X.1.hb (dcs_get dec_law_1 13 rfl) ?_
  obtain ⟨h9, hf⟩ := cG_some hf
  refine va_sld X.1.hx X.1.hb X.2.2.2.1 X.2.2.2.2.1 (Nat.not_le.mpr X.2.2.2.2.1) w.2.2 (inb_in h9) (dcs_get dec_law_1 14 rfl) ?_
  refine lv_aload_n X.1.hx X.1.hb (dcs_get dec_law_1 15 rfl) rfl (lv_at hl 0 rfl) ?_
  refine lv_iload_n X.1.hx X.1.hb (dcs_get dec_law_1 16 rfl) rfl (lv_at hl 3 rfl) ?_
  refine lv_iconst (v := (2 : Int32)) X.1.hx X.1.hb (dcs_get dec_law_1 17 rfl) (by decide) ?_
  refine lv_iadd X.1.hx X.1.hb (dcs_get dec_law_1 18 rfl) ?_
  obtain ⟨h10, hf⟩ := cG_some hf
  refine va_sld X.1.hx X.1.hb X.2.2.2.1 X.2.2.2.2.1 (Nat.not_le.mpr X.2.2.2.2.1) w.2.2 (inb_in h10) (dcs_get dec_law_1 19 rfl) ?_
  refine lv_aload_n X.1.hx X.1.hb (dcs_get dec_law_1 20 rfl) rfl (lv_at hl 0 rfl) ?_
  refine lv_iload_n X.1.hx X.1.hb (dcs_get dec_law_1 21 rfl) rfl (lv_at hl 3 rfl) ?_
  refine lv_iconst (v := (3 : Int32)) X.1.hx X.1.hb (dcs_get dec_law_1 22 rfl) (by decide) ?_
  refine lv_iadd X.1.hx X.1.hb (dcs_get dec_law_1 23 rfl) ?_
  obtain ⟨h11, hf⟩ := cG_some hf
  refine va_sld X.1.hx X.1.hb X.2.2.2.1 X.2.2.2.2.1 (Nat.not_le.mpr X.2.2.2.2.1) w.2.2 (inb_in h11) (dcs_get dec_law_1 24 rfl) ?_
  refine lv_aload_n X.1.hx X.1.hb (dcs_get dec_law_1 25 rfl) rfl (lv_at hl 0 rfl) ?_
  refine lv_iload_n X.1.hx X.1.hb (dcs_get dec_law_1 26 rfl) rfl (lv_at hl 3 rfl) ?_
  refine lv_iconst (v := (4 : Int32)) X.1.hx X.1.hb (dcs_get dec_law_1 27 rfl) (by decide) ?_
  refine lv_iadd X.1.hx X.1.hb (dcs_get dec_law_1 28 rfl) ?_
  obtain ⟨h12, hf⟩ := cG_some hf
  refine va_sld X.1.hx X.1.hb X.2.2.2.1 X.2.2.2.2.1 (Nat.not_le.mpr X.2.2.2.2.1) w.2.2 (inb_in h12) (dcs_get dec_law_1 29 rfl) ?_
  refine lv_aload_n X.1.hx X.1.hb (dcs_get dec_law_1 30 rfl) rfl (lv_at hl 0 rfl) ?_
  refine lv_iload_n X.1.hx X.1.hb (dcs_get dec_law_1 31 rfl) rfl (lv_at hl 3 rfl) ?_
  refine lv_iconst (v := (5 : Int32)) X.1.hx X.1.hb (dcs_get dec_law_1 32 rfl) (by decide) ?_
  refine lv_iadd X.1.hx X.1.hb (dcs_get dec_law_1 33 rfl) ?_
  obtain ⟨h13, hf⟩ := cG_some hf
  refine va_sld X.1.hx X.1.hb X.2.2.2.1 X.2.2.2.2.1 (Nat.not_le.mpr X.2.2.2.2.1) w.2.2 (inb_in h13) (dcs_get dec_law_1 34 rfl) ?_
  obtain ⟨v15, τ16, h14, hf⟩ := cC_some hf
  refine a_i2 (k_V (K := kM) (c0 := 0) (As := [.int (xs (i + (1 : Int32)).toNatClampNeg), .int (xs (i + (2 : Int32)).toNatClampNeg), .int (xs (i + (3 : Int32)).toNatClampNeg), .int (xs (i + (4 : Int32)).toNatClampNeg), .int (xs (i + (5 : Int32)).toNatClampNeg)]) (rest := [.int v7]) cls12 lb_X12_feed lv_X12_feed q_1216 (C_X12_feed X.2.1.2.2.1 0 (xs (i + (1 : Int32)).toNatClampNeg) (xs (i + (2 : Int32)).toNatClampNeg) (xs (i + (3 : Int32)).toNatClampNeg) (xs (i + (4 : Int32)).toNatClampNeg) (xs (i + (5 : Int32)).toNatClampNeg) τ h14 ok12) ⟨Nat.le_of_ble_eq_true rfl, Nat.le_of_ble_eq_true rfl⟩ X.2.1 ⟨w.2.1, w.2.2⟩ (okr_in ok12).1 (okr_in ok12).2 rfl rfl hl.1 (Nat.le_of_ble_eq_true rfl) (dcs_get dec_law_1 35 rfl) ⟨Nat.le_of_ble_eq_true rfl, Nat.le_of_ble_eq_true rfl⟩) X w (fun H locs w => ?_)
  refine lv_icmp_eq (tgt := 1160) X.1.hx X.1.hb (dcs_get dec_law_1 36 rfl) (by decide) (fun hc => ?_) (fun hc => ?_)
  · rw [if_pos hc] at hf
    obtain ⟨v17, e_v17, hf⟩ := cL_some hf
    refine lv_iinc (v := v17) (lv' := [(3, .int v17), (0, .ref b), (1, .ref (ad1 0)), (2, .ref (ad2 0))]) X.1.hx X.1.hb (dcs_get dec_law_20 18 rfl) hl (k := 3) rfl (by rw [e_v17]; rfl) (by decide) rfl (fun ls hl => ?_)
    refine lv_goto (tgt := 18) X.1.hx X.1.hb (dcs_get dec_law_20 19 rfl) (by decide) ?_
    exact hb (v17, σ8, τ16) (Option.some.inj hf).symm _ _ _ w (lv_sub hl [1, 2, 3, 0] rfl)
  · rw [if_neg hc] at hf
    refine lv_iconst (v := (0 : Int32)) X.1.hx X.1.hb (dcs_get dec_law_1 37 rfl) (by decide) ?_
    exact absurd (hr _ (Option.some.inj hf).symm) (by decide)
set_option maxRecDepth 100000 in
set_option maxHeartbeats 8000000 in
theorem B_law_231 {H : Heap} {locs : List Loc} {ls : Array Slot} {o : (Int32 × hSt × hSt) ⊕ Int32} (X : LC p s m meth c D ay ad1 ad2 b L xs) (i : Int32) (σ τ : hSt) (hf : F_law_231 xs L i σ τ = some o) (hb : ∀ (v : Int32 × hSt × hSt), o = .inl v → ∀ (H : Heap) (locs : List Loc) (ls : Array Slot), WL D ay ad1 ad2 s v.2.1 v.2.2 H locs → lv_has ls 4 [(0, .ref b), (1, .ref (ad1 0)), (2, .ref (ad2 0)), (3, .int v.1)] → W p l e room_1 s m #[Value.ref b] below meth c H locs 293 37911 (lw_Z below #[Value.ref b] s) (F0 m 18 ls [])) (hr : ∀ x, o = .inr x → x = 1) (w : WL D ay ad1 ad2 s σ τ H locs) (hl : lv_has ls 4 [(0, .ref b), (1, .ref (ad1 0)), (2, .ref (ad2 0)), (3, .int i)]) : W p l e room_1 s m #[Value.ref b] below meth c H locs 293 37911 (lw_Z below #[Value.ref b] s) (F0 m 231 ls []) := by
  unfold F_law_231 at hf
  refine lv_aload_n X.1.hx X.1.hb (dcs_get dec_law_1 39 rfl) rfl (lv_at hl 1 rfl) ?_
  refine lv_aload_n X.1.hx X.1.hb (dcs_get dec_law_2 0 rfl) rfl (lv_at hl 0 rfl) ?_
  refine lv_iload_n X.1.hx X.1.hb (dcs_get dec_law_2 1 rfl) rfl (lv_at hl 3 rfl) ?_
  refine lv_iconst (v := (1 : Int32)) X.1.hx X.1.hb (dcs_get dec_law_2 2 rfl) (by decide) ?_
  refine lv_iadd X.1.hx X.1.hb (dcs_get dec_law_2 3 rfl) ?_
  obtain ⟨h18, hf⟩ := cG_some hf
  refine va_sld X.1.hx X.1.hb X.2.2.2.1 X.2.2.2.2.1 (Nat.not_le.mpr X.2.2.2.2.1) w.2.2 (inb_in h18) (dcs_get dec_law_2 4 rfl) ?_
  obtain ⟨v20, σ21, h19, hf⟩ := cC_some hf
  refine a_i1 (k_V (K := kC) (c0 := 0) (As := [.int (xs (i + (1 : Int32)).toNatClampNeg)]) (rest := []) cls11 lb_X11_back lv_X11_back q_439 (C_X11_back X.1.2.2.1 0 (xs (i + (1 : Int32)).toNatClampNeg) σ h19 ok11) ⟨Nat.le_of_ble_eq_true rfl, Nat.le_of_ble_eq_true rfl⟩ X.1 ⟨w.1, w.2.2⟩ (okr_in ok11).1 (okr_in ok11).2 rfl rfl hl.1 (Nat.le_of_ble_eq_true rfl) (dcs_get dec_law_2 5 rfl) ⟨Nat.le_of_ble_eq_true rfl, Nat.le_of_ble_eq_true rfl⟩) X w (fun H locs w => ?_)
  refine lv_aload_n X.1.hx X.1.hb (dcs_get dec_law_2 6 rfl) rfl (lv_at hl 2 rfl) ?_
  refine lv_aload_n X.1.hx X.1.hb (dcs_get dec_law_2 7 rfl) rfl (lv_at hl 0 rfl) ?_
  refine lv_iload_n X.1.hx X.1.hb (dcs_get dec_law_2 8 rfl) rfl (lv_at hl 3 rfl) ?_
  refine lv_iconst (v := (1 : Int32)) X.1.hx X.1.hb (dcs_get dec_law_2 9 rfl) (by decide) ?_
  refine lv_iadd X.1.hx X.1.hb (dcs_get dec_law_2 10 rfl) ?_
  obtain ⟨h22, hf⟩ := cG_some hf
  refine va_sld X.1.hx X.1.hb X.2.2.2.1 X.2.2.2.2.1 (Nat.not_le.mpr X.2.2.2.2.1) w.2.2 (inb_in h22) (dcs_get dec_law_2 11 rfl) ?_
  obtain ⟨v24, τ25, h23, hf⟩ := cC_some hf
  refine a_i2 (k_V (K := kM) (c0 := 0) (As := [.int (xs (i + (1 : Int32)).toNatClampNeg)]) (rest := [.int v20]) cls12 lb_X12_back lv_X12_back q_1224 (C_X12_back X.2.1.2.2.1 0 (xs (i + (1 : Int32)).toNatClampNeg) τ h23 ok12) ⟨Nat.le_of_ble_eq_true rfl, Nat.le_of_ble_eq_true rfl⟩ X.2.1 ⟨w.2.1, w.2.2⟩ (okr_in ok12).1 (okr_in ok12).2 rfl rfl hl.1 (Nat.le_of_ble_eq_true rfl) (dcs_get dec_law_2 12 rfl) ⟨Nat.le_of_ble_eq_true rfl, Nat.le_of_ble_eq_true rfl⟩) X w (fun H locs w => ?_)
  refine lv_icmp_eq (tgt := 1160) X.1.hx X.1.hb (dcs_get dec_law_2 13 rfl) (by decide) (fun hc => ?_) (fun hc => ?_)
  · rw [if_pos hc] at hf
    obtain ⟨v26, e_v26, hf⟩ := cL_some hf
    refine lv_iinc (v := v26) (lv' := [(3, .int v26), (0, .ref b), (1, .ref (ad1 0)), (2, .ref (ad2 0))]) X.1.hx X.1.hb (dcs_get dec_law_20 18 rfl) hl (k := 3) rfl (by rw [e_v26]; rfl) (by decide) rfl (fun ls hl => ?_)
    refine lv_goto (tgt := 18) X.1.hx X.1.hb (dcs_get dec_law_20 19 rfl) (by decide) ?_
    exact hb (v26, σ21, τ25) (Option.some.inj hf).symm _ _ _ w (lv_sub hl [1, 2, 3, 0] rfl)
  · rw [if_neg hc] at hf
    refine lv_iconst (v := (0 : Int32)) X.1.hx X.1.hb (dcs_get dec_law_2 14 rfl) (by decide) ?_
    exact absurd (hr _ (Option.some.inj hf).symm) (by decide)
set_option maxRecDepth 100000 in
set_option maxHeartbeats 8000000 in
theorem B_law_254 {H : Heap} {locs : List Loc} {ls : Array Slot} {o : (Int32 × hSt × hSt) ⊕ Int32} (X : LC p s m meth c D ay ad1 ad2 b L xs) (i : Int32) (σ τ : hSt) (hf : F_law_254 xs L i σ τ = some o) (hb : ∀ (v : Int32 × hSt × hSt), o = .inl v → ∀ (H : Heap) (locs : List Loc) (ls : Array Slot), WL D ay ad1 ad2 s v.2.1 v.2.2 H locs → lv_has ls 4 [(0, .ref b), (1, .ref (ad1 0)), (2, .ref (ad2 0)), (3, .int v.1)] → W p l e room_1 s m #[Value.ref b] below meth c H locs 293 37911 (lw_Z below #[Value.ref b] s) (F0 m 18 ls [])) (hr : ∀ x, o = .inr x → x = 1) (w : WL D ay ad1 ad2 s σ τ H locs) (hl : lv_has ls 4 [(0, .ref b), (1, .ref (ad1 0)), (2, .ref (ad2 0)), (3, .int i)]) : W p l e room_1 s m #[Value.ref b] below meth c H locs 293 37911 (lw_Z below #[Value.ref b] s) (F0 m 254 ls []) := by
  unfold F_law_254 at hf
  refine lv_aload_n X.1.hx X.1.hb (dcs_get dec_law_2 16 rfl) rfl (lv_at hl 1 rfl) ?_
  obtain ⟨v28, σ29, h27, hf⟩ := cC_some hf
  refine a_i1 (k_V (K := kC) (c0 := 0) (As := []) (rest := []) cls11 lb_X11_read lv_X11_read q_443 (C_X11_read X.1.2.2.1 0  σ h27 ok11) ⟨Nat.le_of_ble_eq_true rfl, Nat.le_of_ble_eq_true rfl⟩ X.1 ⟨w.1, w.2.2⟩ (okr_in ok11).1 (okr_in ok11).2 rfl rfl hl.1 (Nat.le_of_ble_eq_true rfl) (dcs_get dec_law_2 17 rfl) ⟨Nat.le_of_ble_eq_true rfl, Nat.le_of_ble_eq_true rfl⟩) X w (fun H locs w => ?_)
  refine lv_aload_n X.1.hx X.1.hb (dcs_get dec_law_2 18 rfl) rfl (lv_at hl 2 rfl) ?_
  obtain ⟨v31, τ32, h30, hf⟩ := cC_some hf
  refine a_i2 (k_V (K := kM) (c0 := 0) (As := []) (rest := [.int v28]) cls12 lb_X12_read lv_X12_read q_1228 (C_X12_read X.2.1.2.2.1 0  τ h30 ok12) ⟨Nat.le_of_ble_eq_true rfl, Nat.le_of_ble_eq_true rfl⟩ X.2.1 ⟨w.2.1, w.2.2⟩ (okr_in ok12).1 (okr_in ok12).2 rfl rfl hl.1 (Nat.le_of_ble_eq_true rfl) (dcs_get dec_law_2 19 rfl) ⟨Nat.le_of_ble_eq_true rfl, Nat.le_of_ble_eq_true rfl⟩) X w (fun H locs w => ?_)
  refine lv_icmp_eq (tgt := 1160) X.1.hx X.1.hb (dcs_get dec_law_2 20 rfl) (by decide) (fun hc => ?_) (fun hc => ?_)
  · rw [if_pos hc] at hf
    obtain ⟨v33, e_v33, hf⟩ := cL_some hf
    refine lv_iinc (v := v33) (lv' := [(3, .int v33), (0, .ref b), (1, .ref (ad1 0)), (2, .ref (ad2 0))]) X.1.hx X.1.hb (dcs_get dec_law_20 18 rfl) hl (k := 3) rfl (by rw [e_v33]; rfl) (by decide) rfl (fun ls hl => ?_)
    refine lv_goto (tgt := 18) X.1.hx X.1.hb (dcs_get dec_law_20 19 rfl) (by decide) ?_
    exact hb (v33, σ29, τ32) (Option.some.inj hf).symm _ _ _ w (lv_sub hl [1, 2, 3, 0] rfl)
  · rw [if_neg hc] at hf
    refine lv_iconst (v := (0 : Int32)) X.1.hx X.1.hb (dcs_get dec_law_2 21 rfl) (by decide) ?_
    exact absurd (hr _ (Option.some.inj hf).symm) (by decide)
set_option maxRecDepth 100000 in
set_option maxHeartbeats 8000000 in
theorem B_law_267 {H : Heap} {locs : List Loc} {ls : Array Slot} {o : (Int32 × hSt × hSt) ⊕ Int32} (X : LC p s m meth c D ay ad1 ad2 b L xs) (i : Int32) (σ τ : hSt) (hf : F_law_267 xs L i σ τ = some o) (hb : ∀ (v : Int32 × hSt × hSt), o = .inl v → ∀ (H : Heap) (locs : List Loc) (ls : Array Slot), WL D ay ad1 ad2 s v.2.1 v.2.2 H locs → lv_has ls 4 [(0, .ref b), (1, .ref (ad1 0)), (2, .ref (ad2 0)), (3, .int v.1)] → W p l e room_1 s m #[Value.ref b] below meth c H locs 293 37911 (lw_Z below #[Value.ref b] s) (F0 m 18 ls [])) (hr : ∀ x, o = .inr x → x = 1) (w : WL D ay ad1 ad2 s σ τ H locs) (hl : lv_has ls 4 [(0, .ref b), (1, .ref (ad1 0)), (2, .ref (ad2 0)), (3, .int i)]) : W p l e room_1 s m #[Value.ref b] below meth c H locs 293 37911 (lw_Z below #[Value.ref b] s) (F0 m 267 ls []) := by
  unfold F_law_267 at hf
  refine lv_aload_n X.1.hx X.1.hb (dcs_get dec_law_2 23 rfl) rfl (lv_at hl 1 rfl) ?_
  obtain ⟨v35, h34, hf⟩ := cB_some hf
  refine a_i1 (k_V (K := kC) (c0 := 0) (As := []) (rest := []) cls11 lb_X11_place lv_X11_place q_678 (C_X11_place X.1.2.2.1 0  σ h34 ok11) ⟨Nat.le_of_ble_eq_true rfl, Nat.le_of_ble_eq_true rfl⟩ X.1 ⟨w.1, w.2.2⟩ (okr_in ok11).1 (okr_in ok11).2 rfl rfl hl.1 (Nat.le_of_ble_eq_true rfl) (dcs_get dec_law_2 24 rfl) ⟨Nat.le_of_ble_eq_true rfl, Nat.le_of_ble_eq_true rfl⟩) X w (fun H locs w => ?_)
  refine lv_aload_n X.1.hx X.1.hb (dcs_get dec_law_2 25 rfl) rfl (lv_at hl 2 rfl) ?_
  obtain ⟨v37, h36, hf⟩ := cB_some hf
  refine a_i2 (k_V (K := kM) (c0 := 0) (As := []) (rest := [.int v35]) cls12 lb_X12_place lv_X12_place q_1338 (C_X12_place X.2.1.2.2.1 0  τ h36 ok12) ⟨Nat.le_of_ble_eq_true rfl, Nat.le_of_ble_eq_true rfl⟩ X.2.1 ⟨w.2.1, w.2.2⟩ (okr_in ok12).1 (okr_in ok12).2 rfl rfl hl.1 (Nat.le_of_ble_eq_true rfl) (dcs_get dec_law_2 26 rfl) ⟨Nat.le_of_ble_eq_true rfl, Nat.le_of_ble_eq_true rfl⟩) X w (fun H locs w => ?_)
  refine lv_icmp_eq (tgt := 1160) X.1.hx X.1.hb (dcs_get dec_law_2 27 rfl) (by decide) (fun hc => ?_) (fun hc => ?_)
  · rw [if_pos hc] at hf
    obtain ⟨v38, e_v38, hf⟩ := cL_some hf
    refine lv_iinc (v := v38) (lv' := [(3, .int v38), (0, .ref b), (1, .ref (ad1 0)), (2, .ref (ad2 0))]) X.1.hx X.1.hb (dcs_get dec_law_20 18 rfl) hl (k := 3) rfl (by rw [e_v38]; rfl) (by decide) rfl (fun ls hl => ?_)
    refine lv_goto (tgt := 18) X.1.hx X.1.hb (dcs_get dec_law_20 19 rfl) (by decide) ?_
    exact hb (v38, σ, τ) (Option.some.inj hf).symm _ _ _ w (lv_sub hl [1, 2, 3, 0] rfl)
  · rw [if_neg hc] at hf
    refine lv_iconst (v := (0 : Int32)) X.1.hx X.1.hb (dcs_get dec_law_2 28 rfl) (by decide) ?_
    exact absurd (hr _ (Option.some.inj hf).symm) (by decide)
set_option maxRecDepth 100000 in
set_option maxHeartbeats 8000000 in
theorem B_law_280 {H : Heap} {locs : List Loc} {ls : Array Slot} {o : (Int32 × hSt × hSt) ⊕ Int32} (X : LC p s m meth c D ay ad1 ad2 b L xs) (i : Int32) (σ τ : hSt) (hf : F_law_280 xs L i σ τ = some o) (hb : ∀ (v : Int32 × hSt × hSt), o = .inl v → ∀ (H : Heap) (locs : List Loc) (ls : Array Slot), WL D ay ad1 ad2 s v.2.1 v.2.2 H locs → lv_has ls 4 [(0, .ref b), (1, .ref (ad1 0)), (2, .ref (ad2 0)), (3, .int v.1)] → W p l e room_1 s m #[Value.ref b] below meth c H locs 293 37911 (lw_Z below #[Value.ref b] s) (F0 m 18 ls [])) (hr : ∀ x, o = .inr x → x = 1) (w : WL D ay ad1 ad2 s σ τ H locs) (hl : lv_has ls 4 [(0, .ref b), (1, .ref (ad1 0)), (2, .ref (ad2 0)), (3, .int i)]) : W p l e room_1 s m #[Value.ref b] below meth c H locs 293 37911 (lw_Z below #[Value.ref b] s) (F0 m 280 ls []) := by
  unfold F_law_280 at hf
  refine lv_aload_n X.1.hx X.1.hb (dcs_get dec_law_2 30 rfl) rfl (lv_at hl 1 rfl) ?_
  refine lv_aload_n X.1.hx X.1.hb (dcs_get dec_law_2 31 rfl) rfl (lv_at hl 0 rfl) ?_
  refine lv_iload_n X.1.hx X.1.hb (dcs_get dec_law_2 32 rfl) rfl (lv_at hl 3 rfl) ?_
  refine lv_iconst (v := (1 : Int32)) X.1.hx X.1.hb (dcs_get dec_law_2 33 rfl) (by decide) ?_
  refine lv_iadd X.1.hx X.1.hb (dcs_get dec_law_2 34 rfl) ?_
  obtain ⟨h39, hf⟩ := cG_some hf
  refine va_sld X.1.hx X.1.hb X.2.2.2.1 X.2.2.2.2.1 (Nat.not_le.mpr X.2.2.2.2.1) w.2.2 (inb_in h39) (dcs_get dec_law_2 35 rfl) ?_
  refine lv_aload_n X.1.hx X.1.hb (dcs_get dec_law_2 36 rfl) rfl (lv_at hl 0 rfl) ?_
  refine lv_iload_n X.1.hx X.1.hb (dcs_get dec_law_2 37 rfl) rfl (lv_at hl 3 rfl) ?_
  refine lv_iconst (v := (2 : Int32)) X.1.hx X.1.hb (dcs_get dec_law_2 38 rfl) (by decide) ?_
  refine lv_iadd X.1.hx X.1.hb (dcs_get dec_law_2 39 rfl) ?_
  obtain ⟨h40, hf⟩ := cG_some hf
  refine va_sld X.1.hx X.1.hb X.2.2.2.1 X.2.2.2.2.1 (Nat.not_le.mpr X.2.2.2.2.1) w.2.2 (inb_in h40) (dcs_get dec_law_3 0 rfl) ?_
  refine lv_aload_n X.1.hx X.1.hb (dcs_get dec_law_3 1 rfl) rfl (lv_at hl 0 rfl) ?_
  refine lv_iload_n X.1.hx X.1.hb (dcs_get dec_law_3 2 rfl) rfl (lv_at hl 3 rfl) ?_
  refine lv_iconst (v := (3 : Int32)) X.1.hx X.1.hb (dcs_get dec_law_3 3 rfl) (by decide) ?_
  refine lv_iadd X.1.hx X.1.hb (dcs_get dec_law_3 4 rfl) ?_
  obtain ⟨h41, hf⟩ := cG_some hf
  refine va_sld X.1.hx X.1.hb X.2.2.2.1 X.2.2.2.2.1 (Nat.not_le.mpr X.2.2.2.2.1) w.2.2 (inb_in h41) (dcs_get dec_law_3 5 rfl) ?_
  obtain ⟨v43, σ44, h42, hf⟩ := cC_some hf
  refine a_i1 (k_V (K := kC) (c0 := 0) (As := [.int (xs (i + (1 : Int32)).toNatClampNeg), .int (xs (i + (2 : Int32)).toNatClampNeg), .int (xs (i + (3 : Int32)).toNatClampNeg)]) (rest := []) cls11 lb_X11_hears lv_X11_hears q_682 (C_X11_hears X.1.2.2.1 0 (xs (i + (1 : Int32)).toNatClampNeg) (xs (i + (2 : Int32)).toNatClampNeg) (xs (i + (3 : Int32)).toNatClampNeg) σ h42 ok11) ⟨Nat.le_of_ble_eq_true rfl, Nat.le_of_ble_eq_true rfl⟩ X.1 ⟨w.1, w.2.2⟩ (okr_in ok11).1 (okr_in ok11).2 rfl rfl hl.1 (Nat.le_of_ble_eq_true rfl) (dcs_get dec_law_3 6 rfl) ⟨Nat.le_of_ble_eq_true rfl, Nat.le_of_ble_eq_true rfl⟩) X w (fun H locs w => ?_)
  refine lv_aload_n X.1.hx X.1.hb (dcs_get dec_law_3 7 rfl) rfl (lv_at hl 2 rfl) ?_
  refine lv_aload_n X.1.hx X.1.hb (dcs_get dec_law_3 8 rfl) rfl (lv_at hl 0 rfl) ?_
  refine lv_iload_n X.1.hx X.1.hb (dcs_get dec_law_3 9 rfl) rfl (lv_at hl 3 rfl) ?_
  refine lv_iconst (v := (1 : Int32)) X.1.hx X.1.hb (dcs_get dec_law_3 10 rfl) (by decide) ?_
  refine lv_iadd X.1.hx X.1.hb (dcs_get dec_law_3 11 rfl) ?_
  obtain ⟨h45, hf⟩ := cG_some hf
  refine va_sld X.1.hx X.1.hb X.2.2.2.1 X.2.2.2.2.1 (Nat.not_le.mpr X.2.2.2.2.1) w.2.2 (inb_in h45) (dcs_get dec_law_3 12 rfl) ?_
  refine lv_aload_n X.1.hx X.1.hb (dcs_get dec_law_3 13 rfl) rfl (lv_at hl 0 rfl) ?_
  refine lv_iload_n X.1.hx X.1.hb (dcs_get dec_law_3 14 rfl) rfl (lv_at hl 3 rfl) ?_
  refine lv_iconst (v := (2 : Int32)) X.1.hx X.1.hb (dcs_get dec_law_3 15 rfl) (by decide) ?_
  refine lv_iadd X.1.hx X.1.hb (dcs_get dec_law_3 16 rfl) ?_
  obtain ⟨h46, hf⟩ := cG_some hf
  refine va_sld X.1.hx X.1.hb X.2.2.2.1 X.2.2.2.2.1 (Nat.not_le.mpr X.2.2.2.2.1) w.2.2 (inb_in h46) (dcs_get dec_law_3 17 rfl) ?_
  refine lv_aload_n X.1.hx X.1.hb (dcs_get dec_law_3 18 rfl) rfl (lv_at hl 0 rfl) ?_
  refine lv_iload_n X.1.hx X.1.hb (dcs_get dec_law_3 19 rfl) rfl (lv_at hl 3 rfl) ?_
  refine lv_iconst (v := (3 : Int32)) X.1.hx X.1.hb (dcs_get dec_law_3 20 rfl) (by decide) ?_
  refine lv_iadd X.1.hx X.1.hb (dcs_get dec_law_3 21 rfl) ?_
  obtain ⟨h47, hf⟩ := cG_some hf
  refine va_sld X.1.hx X.1.hb X.2.2.2.1 X.2.2.2.2.1 (Nat.not_le.mpr X.2.2.2.2.1) w.2.2 (inb_in h47) (dcs_get dec_law_3 22 rfl) ?_
  obtain ⟨v49, τ50, h48, hf⟩ := cC_some hf
  refine a_i2 (k_V (K := kM) (c0 := 0) (As := [.int (xs (i + (1 : Int32)).toNatClampNeg), .int (xs (i + (2 : Int32)).toNatClampNeg), .int (xs (i + (3 : Int32)).toNatClampNeg)]) (rest := [.int v43]) cls12 lb_X12_hears lv_X12_hears q_1342 (C_X12_hears X.2.1.2.2.1 0 (xs (i + (1 : Int32)).toNatClampNeg) (xs (i + (2 : Int32)).toNatClampNeg) (xs (i + (3 : Int32)).toNatClampNeg) τ h48 ok12) ⟨Nat.le_of_ble_eq_true rfl, Nat.le_of_ble_eq_true rfl⟩ X.2.1 ⟨w.2.1, w.2.2⟩ (okr_in ok12).1 (okr_in ok12).2 rfl rfl hl.1 (Nat.le_of_ble_eq_true rfl) (dcs_get dec_law_3 23 rfl) ⟨Nat.le_of_ble_eq_true rfl, Nat.le_of_ble_eq_true rfl⟩) X w (fun H locs w => ?_)
  refine lv_icmp_eq (tgt := 1160) X.1.hx X.1.hb (dcs_get dec_law_3 24 rfl) (by decide) (fun hc => ?_) (fun hc => ?_)
  · rw [if_pos hc] at hf
    obtain ⟨v51, e_v51, hf⟩ := cL_some hf
    refine lv_iinc (v := v51) (lv' := [(3, .int v51), (0, .ref b), (1, .ref (ad1 0)), (2, .ref (ad2 0))]) X.1.hx X.1.hb (dcs_get dec_law_20 18 rfl) hl (k := 3) rfl (by rw [e_v51]; rfl) (by decide) rfl (fun ls hl => ?_)
    refine lv_goto (tgt := 18) X.1.hx X.1.hb (dcs_get dec_law_20 19 rfl) (by decide) ?_
    exact hb (v51, σ44, τ50) (Option.some.inj hf).symm _ _ _ w (lv_sub hl [1, 2, 3, 0] rfl)
  · rw [if_neg hc] at hf
    refine lv_iconst (v := (0 : Int32)) X.1.hx X.1.hb (dcs_get dec_law_3 25 rfl) (by decide) ?_
    exact absurd (hr _ (Option.some.inj hf).symm) (by decide)
set_option maxRecDepth 100000 in
set_option maxHeartbeats 8000000 in
theorem B_law_323 {H : Heap} {locs : List Loc} {ls : Array Slot} {o : (Int32 × hSt × hSt) ⊕ Int32} (X : LC p s m meth c D ay ad1 ad2 b L xs) (i : Int32) (σ τ : hSt) (hf : F_law_323 xs L i σ τ = some o) (hb : ∀ (v : Int32 × hSt × hSt), o = .inl v → ∀ (H : Heap) (locs : List Loc) (ls : Array Slot), WL D ay ad1 ad2 s v.2.1 v.2.2 H locs → lv_has ls 4 [(0, .ref b), (1, .ref (ad1 0)), (2, .ref (ad2 0)), (3, .int v.1)] → W p l e room_1 s m #[Value.ref b] below meth c H locs 293 37911 (lw_Z below #[Value.ref b] s) (F0 m 18 ls [])) (hr : ∀ x, o = .inr x → x = 1) (w : WL D ay ad1 ad2 s σ τ H locs) (hl : lv_has ls 4 [(0, .ref b), (1, .ref (ad1 0)), (2, .ref (ad2 0)), (3, .int i)]) : W p l e room_1 s m #[Value.ref b] below meth c H locs 293 37911 (lw_Z below #[Value.ref b] s) (F0 m 323 ls []) := by
  unfold F_law_323 at hf
  refine lv_aload_n X.1.hx X.1.hb (dcs_get dec_law_3 27 rfl) rfl (lv_at hl 1 rfl) ?_
  refine lv_aload_n X.1.hx X.1.hb (dcs_get dec_law_3 28 rfl) rfl (lv_at hl 0 rfl) ?_
  refine lv_iload_n X.1.hx X.1.hb (dcs_get dec_law_3 29 rfl) rfl (lv_at hl 3 rfl) ?_
  refine lv_iconst (v := (1 : Int32)) X.1.hx X.1.hb (dcs_get dec_law_3 30 rfl) (by decide) ?_
  refine lv_iadd X.1.hx X.1.hb (dcs_get dec_law_3 31 rfl) ?_
  obtain ⟨h52, hf⟩ := cG_some hf
  refine va_sld X.1.hx X.1.hb X.2.2.2.1 X.2.2.2.2.1 (Nat.not_le.mpr X.2.2.2.2.1) w.2.2 (inb_in h52) (dcs_get dec_law_3 32 rfl) ?_
  refine lv_aload_n X.1.hx X.1.hb (dcs_get dec_law_3 33 rfl) rfl (lv_at hl 0 rfl) ?_
  refine lv_iload_n X.1.hx X.1.hb (dcs_get dec_law_3 34 rfl) rfl (lv_at hl 3 rfl) ?_
  refine lv_iconst (v := (2 : Int32)) X.1.hx X.1.hb (dcs_get dec_law_3 35 rfl) (by decide) ?_
  refine lv_iadd X.1.hx X.1.hb (dcs_get dec_law_3 36 rfl) ?_
  obtain ⟨h53, hf⟩ := cG_some hf
  refine va_sld X.1.hx X.1.hb X.2.2.2.1 X.2.2.2.2.1 (Nat.not_le.mpr X.2.2.2.2.1) w.2.2 (inb_in h53) (dcs_get dec_law_3 37 rfl) ?_
  refine lv_aload_n X.1.hx X.1.hb (dcs_get dec_law_3 38 rfl) rfl (lv_at hl 0 rfl) ?_
  refine lv_iload_n X.1.hx X.1.hb (dcs_get dec_law_3 39 rfl) rfl (lv_at hl 3 rfl) ?_
  refine lv_iconst (v := (3 : Int32)) X.1.hx X.1.hb (dcs_get dec_law_4 0 rfl) (by decide) ?_
  refine lv_iadd X.1.hx X.1.hb (dcs_get dec_law_4 1 rfl) ?_
  obtain ⟨h54, hf⟩ := cG_some hf
  refine va_sld X.1.hx X.1.hb X.2.2.2.1 X.2.2.2.2.1 (Nat.not_le.mpr X.2.2.2.2.1) w.2.2 (inb_in h54) (dcs_get dec_law_4 2 rfl) ?_
  obtain ⟨v56, h55, hf⟩ := cB_some hf
  refine a_i1 (k_V (K := kC) (c0 := 0) (As := [.int (xs (i + (1 : Int32)).toNatClampNeg), .int (xs (i + (2 : Int32)).toNatClampNeg), .int (xs (i + (3 : Int32)).toNatClampNeg)]) (rest := []) cls11 lb_X11_news lv_X11_news q_716 (C_X11_news X.1.2.2.1 0 (xs (i + (1 : Int32)).toNatClampNeg) (xs (i + (2 : Int32)).toNatClampNeg) (xs (i + (3 : Int32)).toNatClampNeg) σ h55 ok11) ⟨Nat.le_of_ble_eq_true rfl, Nat.le_of_ble_eq_true rfl⟩ X.1 ⟨w.1, w.2.2⟩ (okr_in ok11).1 (okr_in ok11).2 rfl rfl hl.1 (Nat.le_of_ble_eq_true rfl) (dcs_get dec_law_4 3 rfl) ⟨Nat.le_of_ble_eq_true rfl, Nat.le_of_ble_eq_true rfl⟩) X w (fun H locs w => ?_)
  refine lv_aload_n X.1.hx X.1.hb (dcs_get dec_law_4 4 rfl) rfl (lv_at hl 2 rfl) ?_
  refine lv_aload_n X.1.hx X.1.hb (dcs_get dec_law_4 5 rfl) rfl (lv_at hl 0 rfl) ?_
  refine lv_iload_n X.1.hx X.1.hb (dcs_get dec_law_4 6 rfl) rfl (lv_at hl 3 rfl) ?_
  refine lv_iconst (v := (1 : Int32)) X.1.hx X.1.hb (dcs_get dec_law_4 7 rfl) (by decide) ?_
  refine lv_iadd X.1.hx X.1.hb (dcs_get dec_law_4 8 rfl) ?_
  obtain ⟨h57, hf⟩ := cG_some hf
  refine va_sld X.1.hx X.1.hb X.2.2.2.1 X.2.2.2.2.1 (Nat.not_le.mpr X.2.2.2.2.1) w.2.2 (inb_in h57) (dcs_get dec_law_4 9 rfl) ?_
  refine lv_aload_n X.1.hx X.1.hb (dcs_get dec_law_4 10 rfl) rfl (lv_at hl 0 rfl) ?_
  refine lv_iload_n X.1.hx X.1.hb (dcs_get dec_law_4 11 rfl) rfl (lv_at hl 3 rfl) ?_
  refine lv_iconst (v := (2 : Int32)) X.1.hx X.1.hb (dcs_get dec_law_4 12 rfl) (by decide) ?_
  refine lv_iadd X.1.hx X.1.hb (dcs_get dec_law_4 13 rfl) ?_
  obtain ⟨h58, hf⟩ := cG_some hf
  refine va_sld X.1.hx X.1.hb X.2.2.2.1 X.2.2.2.2.1 (Nat.not_le.mpr X.2.2.2.2.1) w.2.2 (inb_in h58) (dcs_get dec_law_4 14 rfl) ?_
  refine lv_aload_n X.1.hx X.1.hb (dcs_get dec_law_4 15 rfl) rfl (lv_at hl 0 rfl) ?_
  refine lv_iload_n X.1.hx X.1.hb (dcs_get dec_law_4 16 rfl) rfl (lv_at hl 3 rfl) ?_
  refine lv_iconst (v := (3 : Int32)) X.1.hx X.1.hb (dcs_get dec_law_4 17 rfl) (by decide) ?_
  refine lv_iadd X.1.hx X.1.hb (dcs_get dec_law_4 18 rfl) ?_
  obtain ⟨h59, hf⟩ := cG_some hf
  refine va_sld X.1.hx X.1.hb X.2.2.2.1 X.2.2.2.2.1 (Nat.not_le.mpr X.2.2.2.2.1) w.2.2 (inb_in h59) (dcs_get dec_law_4 19 rfl) ?_
  obtain ⟨v61, h60, hf⟩ := cB_some hf
  refine a_i2 (k_V (K := kM) (c0 := 0) (As := [.int (xs (i + (1 : Int32)).toNatClampNeg), .int (xs (i + (2 : Int32)).toNatClampNeg), .int (xs (i + (3 : Int32)).toNatClampNeg)]) (rest := [.int v56]) cls12 lb_X12_news lv_X12_news q_1372 (C_X12_news X.2.1.2.2.1 0 (xs (i + (1 : Int32)).toNatClampNeg) (xs (i + (2 : Int32)).toNatClampNeg) (xs (i + (3 : Int32)).toNatClampNeg) τ h60 ok12) ⟨Nat.le_of_ble_eq_true rfl, Nat.le_of_ble_eq_true rfl⟩ X.2.1 ⟨w.2.1, w.2.2⟩ (okr_in ok12).1 (okr_in ok12).2 rfl rfl hl.1 (Nat.le_of_ble_eq_true rfl) (dcs_get dec_law_4 20 rfl) ⟨Nat.le_of_ble_eq_true rfl, Nat.le_of_ble_eq_true rfl⟩) X w (fun H locs w => ?_)
  refine lv_icmp_eq (tgt := 1160) X.1.hx X.1.hb (dcs_get dec_law_4 21 rfl) (by decide) (fun hc => ?_) (fun hc => ?_)
  · rw [if_pos hc] at hf
    obtain ⟨v62, e_v62, hf⟩ := cL_some hf
    refine lv_iinc (v := v62) (lv' := [(3, .int v62), (0, .ref b), (1, .ref (ad1 0)), (2, .ref (ad2 0))]) X.1.hx X.1.hb (dcs_get dec_law_20 18 rfl) hl (k := 3) rfl (by rw [e_v62]; rfl) (by decide) rfl (fun ls hl => ?_)
    refine lv_goto (tgt := 18) X.1.hx X.1.hb (dcs_get dec_law_20 19 rfl) (by decide) ?_
    exact hb (v62, σ, τ) (Option.some.inj hf).symm _ _ _ w (lv_sub hl [1, 2, 3, 0] rfl)
  · rw [if_neg hc] at hf
    refine lv_iconst (v := (0 : Int32)) X.1.hx X.1.hb (dcs_get dec_law_4 22 rfl) (by decide) ?_
    exact absurd (hr _ (Option.some.inj hf).symm) (by decide)
set_option maxRecDepth 100000 in
set_option maxHeartbeats 8000000 in
theorem B_law_366 {H : Heap} {locs : List Loc} {ls : Array Slot} {o : (Int32 × hSt × hSt) ⊕ Int32} (X : LC p s m meth c D ay ad1 ad2 b L xs) (i : Int32) (σ τ : hSt) (hf : F_law_366 xs L i σ τ = some o) (hb : ∀ (v : Int32 × hSt × hSt), o = .inl v → ∀ (H : Heap) (locs : List Loc) (ls : Array Slot), WL D ay ad1 ad2 s v.2.1 v.2.2 H locs → lv_has ls 4 [(0, .ref b), (1, .ref (ad1 0)), (2, .ref (ad2 0)), (3, .int v.1)] → W p l e room_1 s m #[Value.ref b] below meth c H locs 293 37911 (lw_Z below #[Value.ref b] s) (F0 m 18 ls [])) (hr : ∀ x, o = .inr x → x = 1) (w : WL D ay ad1 ad2 s σ τ H locs) (hl : lv_has ls 4 [(0, .ref b), (1, .ref (ad1 0)), (2, .ref (ad2 0)), (3, .int i)]) : W p l e room_1 s m #[Value.ref b] below meth c H locs 293 37911 (lw_Z below #[Value.ref b] s) (F0 m 366 ls []) := by
  unfold F_law_366 at hf
  refine lv_aload_n X.1.hx X.1.hb (dcs_get dec_law_4 24 rfl) rfl (lv_at hl 1 rfl) ?_
  refine lv_aload_n X.1.hx X.1.hb (dcs_get dec_law_4 25 rfl) rfl (lv_at hl 0 rfl) ?_
  refine lv_iload_n X.1.hx X.1.hb (dcs_get dec_law_4 26 rfl) rfl (lv_at hl 3 rfl) ?_
  refine lv_iconst (v := (1 : Int32)) X.1.hx X.1.hb (dcs_get dec_law_4 27 rfl) (by decide) ?_
  refine lv_iadd X.1.hx X.1.hb (dcs_get dec_law_4 28 rfl) ?_
  obtain ⟨h63, hf⟩ := cG_some hf
  refine va_sld X.1.hx X.1.hb X.2.2.2.1 X.2.2.2.2.1 (Nat.not_le.mpr X.2.2.2.2.1) w.2.2 (inb_in h63) (dcs_get dec_law_4 29 rfl) ?_
  refine lv_aload_n X.1.hx X.1.hb (dcs_get dec_law_4 30 rfl) rfl (lv_at hl 0 rfl) ?_
  refine lv_iload_n X.1.hx X.1.hb (dcs_get dec_law_4 31 rfl) rfl (lv_at hl 3 rfl) ?_
  refine lv_iconst (v := (2 : Int32)) X.1.hx X.1.hb (dcs_get dec_law_4 32 rfl) (by decide) ?_
  refine lv_iadd X.1.hx X.1.hb (dcs_get dec_law_4 33 rfl) ?_
  obtain ⟨h64, hf⟩ := cG_some hf
  refine va_sld X.1.hx X.1.hb X.2.2.2.1 X.2.2.2.2.1 (Nat.not_le.mpr X.2.2.2.2.1) w.2.2 (inb_in h64) (dcs_get dec_law_4 34 rfl) ?_
  refine lv_aload_n X.1.hx X.1.hb (dcs_get dec_law_4 35 rfl) rfl (lv_at hl 0 rfl) ?_
  refine lv_iload_n X.1.hx X.1.hb (dcs_get dec_law_4 36 rfl) rfl (lv_at hl 3 rfl) ?_
  refine lv_iconst (v := (3 : Int32)) X.1.hx X.1.hb (dcs_get dec_law_4 37 rfl) (by decide) ?_
  refine lv_iadd X.1.hx X.1.hb (dcs_get dec_law_4 38 rfl) ?_
  obtain ⟨h65, hf⟩ := cG_some hf
  refine va_sld X.1.hx X.1.hb X.2.2.2.1 X.2.2.2.2.1 (Nat.not_le.mpr X.2.2.2.2.1) w.2.2 (inb_in h65) (dcs_get dec_law_4 39 rfl) ?_
  refine lv_if_eq (tgt := 389) X.1.hx X.1.hb (dcs_get dec_law_5 0 rfl) (by decide) (fun hc => ?_) (fun hc => ?_)
  · rw [if_pos hc] at hf
    refine lv_iconst (v := (0 : Int32)) X.1.hx X.1.hb (dcs_get dec_law_5 3 rfl) (by decide) ?_
    obtain ⟨v67, σ68, h66, hf⟩ := cC_some hf
    refine a_i1 (k_V (K := kC) (c0 := 0) (As := [.int (xs (i + (1 : Int32)).toNatClampNeg), .int (xs (i + (2 : Int32)).toNatClampNeg), .int (0 : Int32)]) (rest := []) cls11 lb_X11_drum lv_X11_drum q_733 (C_X11_drum X.1.2.2.1 0 (xs (i + (1 : Int32)).toNatClampNeg) (xs (i + (2 : Int32)).toNatClampNeg) (0 : Int32) σ h66 ok11) ⟨Nat.le_of_ble_eq_true rfl, Nat.le_of_ble_eq_true rfl⟩ X.1 ⟨w.1, w.2.2⟩ (okr_in ok11).1 (okr_in ok11).2 rfl rfl hl.1 (Nat.le_of_ble_eq_true rfl) (dcs_get dec_law_5 4 rfl) ⟨Nat.le_of_ble_eq_true rfl, Nat.le_of_ble_eq_true rfl⟩) X w (fun H locs w => ?_)
    refine lv_aload_n X.1.hx X.1.hb (dcs_get dec_law_5 5 rfl) rfl (lv_at hl 2 rfl) ?_
    refine lv_aload_n X.1.hx X.1.hb (dcs_get dec_law_5 6 rfl) rfl (lv_at hl 0 rfl) ?_
    refine lv_iload_n X.1.hx X.1.hb (dcs_get dec_law_5 7 rfl) rfl (lv_at hl 3 rfl) ?_
    refine lv_iconst (v := (1 : Int32)) X.1.hx X.1.hb (dcs_get dec_law_5 8 rfl) (by decide) ?_
    refine lv_iadd X.1.hx X.1.hb (dcs_get dec_law_5 9 rfl) ?_
    obtain ⟨h69, hf⟩ := cG_some hf
    refine va_sld X.1.hx X.1.hb X.2.2.2.1 X.2.2.2.2.1 (Nat.not_le.mpr X.2.2.2.2.1) w.2.2 (inb_in h69) (dcs_get dec_law_5 10 rfl) ?_
    refine lv_aload_n X.1.hx X.1.hb (dcs_get dec_law_5 11 rfl) rfl (lv_at hl 0 rfl) ?_
    refine lv_iload_n X.1.hx X.1.hb (dcs_get dec_law_5 12 rfl) rfl (lv_at hl 3 rfl) ?_
    refine lv_iconst (v := (2 : Int32)) X.1.hx X.1.hb (dcs_get dec_law_5 13 rfl) (by decide) ?_
    refine lv_iadd X.1.hx X.1.hb (dcs_get dec_law_5 14 rfl) ?_
    obtain ⟨h70, hf⟩ := cG_some hf
    refine va_sld X.1.hx X.1.hb X.2.2.2.1 X.2.2.2.2.1 (Nat.not_le.mpr X.2.2.2.2.1) w.2.2 (inb_in h70) (dcs_get dec_law_5 15 rfl) ?_
    refine lv_aload_n X.1.hx X.1.hb (dcs_get dec_law_5 16 rfl) rfl (lv_at hl 0 rfl) ?_
    refine lv_iload_n X.1.hx X.1.hb (dcs_get dec_law_5 17 rfl) rfl (lv_at hl 3 rfl) ?_
    refine lv_iconst (v := (3 : Int32)) X.1.hx X.1.hb (dcs_get dec_law_5 18 rfl) (by decide) ?_
    refine lv_iadd X.1.hx X.1.hb (dcs_get dec_law_5 19 rfl) ?_
    obtain ⟨h71, hf⟩ := cG_some hf
    refine va_sld X.1.hx X.1.hb X.2.2.2.1 X.2.2.2.2.1 (Nat.not_le.mpr X.2.2.2.2.1) w.2.2 (inb_in h71) (dcs_get dec_law_5 20 rfl) ?_
    refine lv_if_eq (tgt := 416) X.1.hx X.1.hb (dcs_get dec_law_5 21 rfl) (by decide) (fun hc => ?_) (fun hc => ?_)
    · rw [if_pos hc] at hf
      refine lv_iconst (v := (0 : Int32)) X.1.hx X.1.hb (dcs_get dec_law_5 24 rfl) (by decide) ?_
      obtain ⟨v73, τ74, h72, hf⟩ := cC_some hf
      refine a_i2 (k_V (K := kM) (c0 := 0) (As := [.int (xs (i + (1 : Int32)).toNatClampNeg), .int (xs (i + (2 : Int32)).toNatClampNeg), .int (0 : Int32)]) (rest := [.int v67]) cls12 lb_X12_drum lv_X12_drum q_1380 (C_X12_drum X.2.1.2.2.1 0 (xs (i + (1 : Int32)).toNatClampNeg) (xs (i + (2 : Int32)).toNatClampNeg) (0 : Int32) τ h72 ok12) ⟨Nat.le_of_ble_eq_true rfl, Nat.le_of_ble_eq_true rfl⟩ X.2.1 ⟨w.2.1, w.2.2⟩ (okr_in ok12).1 (okr_in ok12).2 rfl rfl hl.1 (Nat.le_of_ble_eq_true rfl) (dcs_get dec_law_5 25 rfl) ⟨Nat.le_of_ble_eq_true rfl, Nat.le_of_ble_eq_true rfl⟩) X w (fun H locs w => ?_)
      refine lv_icmp_eq (tgt := 1160) X.1.hx X.1.hb (dcs_get dec_law_5 26 rfl) (by decide) (fun hc => ?_) (fun hc => ?_)
      · rw [if_pos hc] at hf
        obtain ⟨v75, e_v75, hf⟩ := cL_some hf
        refine lv_iinc (v := v75) (lv' := [(3, .int v75), (0, .ref b), (1, .ref (ad1 0)), (2, .ref (ad2 0))]) X.1.hx X.1.hb (dcs_get dec_law_20 18 rfl) hl (k := 3) rfl (by rw [e_v75]; rfl) (by decide) rfl (fun ls hl => ?_)
        refine lv_goto (tgt := 18) X.1.hx X.1.hb (dcs_get dec_law_20 19 rfl) (by decide) ?_
        exact hb (v75, σ68, τ74) (Option.some.inj hf).symm _ _ _ w (lv_sub hl [1, 2, 3, 0] rfl)
      · rw [if_neg hc] at hf
        refine lv_iconst (v := (0 : Int32)) X.1.hx X.1.hb (dcs_get dec_law_5 27 rfl) (by decide) ?_
        exact absurd (hr _ (Option.some.inj hf).symm) (by decide)
    · rw [if_neg hc] at hf
      refine lv_iconst (v := (1 : Int32)) X.1.hx X.1.hb (dcs_get dec_law_5 22 rfl) (by decide) ?_
      refine lv_goto (tgt := 417) X.1.hx X.1.hb (dcs_get dec_law_5 23 rfl) (by decide) ?_
      obtain ⟨v77, τ78, h76, hf⟩ := cC_some hf
      refine a_i2 (k_V (K := kM) (c0 := 0) (As := [.int (xs (i + (1 : Int32)).toNatClampNeg), .int (xs (i + (2 : Int32)).toNatClampNeg), .int (1 : Int32)]) (rest := [.int v67]) cls12 lb_X12_drum lv_X12_drum q_1380 (C_X12_drum X.2.1.2.2.1 0 (xs (i + (1 : Int32)).toNatClampNeg) (xs (i + (2 : Int32)).toNatClampNeg) (1 : Int32) τ h76 ok12) ⟨Nat.le_of_ble_eq_true rfl, Nat.le_of_ble_eq_true rfl⟩ X.2.1 ⟨w.2.1, w.2.2⟩ (okr_in ok12).1 (okr_in ok12).2 rfl rfl hl.1 (Nat.le_of_ble_eq_true rfl) (dcs_get dec_law_5 25 rfl) ⟨Nat.le_of_ble_eq_true rfl, Nat.le_of_ble_eq_true rfl⟩) X w (fun H locs w => ?_)
      refine lv_icmp_eq (tgt := 1160) X.1.hx X.1.hb (dcs_get dec_law_5 26 rfl) (by decide) (fun hc => ?_) (fun hc => ?_)
      · rw [if_pos hc] at hf
        obtain ⟨v79, e_v79, hf⟩ := cL_some hf
        refine lv_iinc (v := v79) (lv' := [(3, .int v79), (0, .ref b), (1, .ref (ad1 0)), (2, .ref (ad2 0))]) X.1.hx X.1.hb (dcs_get dec_law_20 18 rfl) hl (k := 3) rfl (by rw [e_v79]; rfl) (by decide) rfl (fun ls hl => ?_)
        refine lv_goto (tgt := 18) X.1.hx X.1.hb (dcs_get dec_law_20 19 rfl) (by decide) ?_
        exact hb (v79, σ68, τ78) (Option.some.inj hf).symm _ _ _ w (lv_sub hl [1, 2, 3, 0] rfl)
      · rw [if_neg hc] at hf
        refine lv_iconst (v := (0 : Int32)) X.1.hx X.1.hb (dcs_get dec_law_5 27 rfl) (by decide) ?_
        exact absurd (hr _ (Option.some.inj hf).symm) (by decide)
  · rw [if_neg hc] at hf
    refine lv_iconst (v := (1 : Int32)) X.1.hx X.1.hb (dcs_get dec_law_5 1 rfl) (by decide) ?_
    refine lv_goto (tgt := 390) X.1.hx X.1.hb (dcs_get dec_law_5 2 rfl) (by decide) ?_
    obtain ⟨v81, σ82, h80, hf⟩ := cC_some hf
    refine a_i1 (k_V (K := kC) (c0 := 0) (As := [.int (xs (i + (1 : Int32)).toNatClampNeg), .int (xs (i + (2 : Int32)).toNatClampNeg), .int (1 : Int32)]) (rest := []) cls11 lb_X11_drum lv_X11_drum q_733 (C_X11_drum X.1.2.2.1 0 (xs (i + (1 : Int32)).toNatClampNeg) (xs (i + (2 : Int32)).toNatClampNeg) (1 : Int32) σ h80 ok11) ⟨Nat.le_of_ble_eq_true rfl, Nat.le_of_ble_eq_true rfl⟩ X.1 ⟨w.1, w.2.2⟩ (okr_in ok11).1 (okr_in ok11).2 rfl rfl hl.1 (Nat.le_of_ble_eq_true rfl) (dcs_get dec_law_5 4 rfl) ⟨Nat.le_of_ble_eq_true rfl, Nat.le_of_ble_eq_true rfl⟩) X w (fun H locs w => ?_)
    refine lv_aload_n X.1.hx X.1.hb (dcs_get dec_law_5 5 rfl) rfl (lv_at hl 2 rfl) ?_
    refine lv_aload_n X.1.hx X.1.hb (dcs_get dec_law_5 6 rfl) rfl (lv_at hl 0 rfl) ?_
    refine lv_iload_n X.1.hx X.1.hb (dcs_get dec_law_5 7 rfl) rfl (lv_at hl 3 rfl) ?_
    refine lv_iconst (v := (1 : Int32)) X.1.hx X.1.hb (dcs_get dec_law_5 8 rfl) (by decide) ?_
    refine lv_iadd X.1.hx X.1.hb (dcs_get dec_law_5 9 rfl) ?_
    obtain ⟨h83, hf⟩ := cG_some hf
    refine va_sld X.1.hx X.1.hb X.2.2.2.1 X.2.2.2.2.1 (Nat.not_le.mpr X.2.2.2.2.1) w.2.2 (inb_in h83) (dcs_get dec_law_5 10 rfl) ?_
    refine lv_aload_n X.1.hx X.1.hb (dcs_get dec_law_5 11 rfl) rfl (lv_at hl 0 rfl) ?_
    refine lv_iload_n X.1.hx X.1.hb (dcs_get dec_law_5 12 rfl) rfl (lv_at hl 3 rfl) ?_
    refine lv_iconst (v := (2 : Int32)) X.1.hx X.1.hb (dcs_get dec_law_5 13 rfl) (by decide) ?_
    refine lv_iadd X.1.hx X.1.hb (dcs_get dec_law_5 14 rfl) ?_
    obtain ⟨h84, hf⟩ := cG_some hf
    refine va_sld X.1.hx X.1.hb X.2.2.2.1 X.2.2.2.2.1 (Nat.not_le.mpr X.2.2.2.2.1) w.2.2 (inb_in h84) (dcs_get dec_law_5 15 rfl) ?_
    refine lv_aload_n X.1.hx X.1.hb (dcs_get dec_law_5 16 rfl) rfl (lv_at hl 0 rfl) ?_
    refine lv_iload_n X.1.hx X.1.hb (dcs_get dec_law_5 17 rfl) rfl (lv_at hl 3 rfl) ?_
    refine lv_iconst (v := (3 : Int32)) X.1.hx X.1.hb (dcs_get dec_law_5 18 rfl) (by decide) ?_
    refine lv_iadd X.1.hx X.1.hb (dcs_get dec_law_5 19 rfl) ?_
    obtain ⟨h85, hf⟩ := cG_some hf
    refine va_sld X.1.hx X.1.hb X.2.2.2.1 X.2.2.2.2.1 (Nat.not_le.mpr X.2.2.2.2.1) w.2.2 (inb_in h85) (dcs_get dec_law_5 20 rfl) ?_
    refine lv_if_eq (tgt := 416) X.1.hx X.1.hb (dcs_get dec_law_5 21 rfl) (by decide) (fun hc => ?_) (fun hc => ?_)
    · rw [if_pos hc] at hf
      refine lv_iconst (v := (0 : Int32)) X.1.hx X.1.hb (dcs_get dec_law_5 24 rfl) (by decide) ?_
      obtain ⟨v87, τ88, h86, hf⟩ := cC_some hf
      refine a_i2 (k_V (K := kM) (c0 := 0) (As := [.int (xs (i + (1 : Int32)).toNatClampNeg), .int (xs (i + (2 : Int32)).toNatClampNeg), .int (0 : Int32)]) (rest := [.int v81]) cls12 lb_X12_drum lv_X12_drum q_1380 (C_X12_drum X.2.1.2.2.1 0 (xs (i + (1 : Int32)).toNatClampNeg) (xs (i + (2 : Int32)).toNatClampNeg) (0 : Int32) τ h86 ok12) ⟨Nat.le_of_ble_eq_true rfl, Nat.le_of_ble_eq_true rfl⟩ X.2.1 ⟨w.2.1, w.2.2⟩ (okr_in ok12).1 (okr_in ok12).2 rfl rfl hl.1 (Nat.le_of_ble_eq_true rfl) (dcs_get dec_law_5 25 rfl) ⟨Nat.le_of_ble_eq_true rfl, Nat.le_of_ble_eq_true rfl⟩) X w (fun H locs w => ?_)
      refine lv_icmp_eq (tgt := 1160) X.1.hx X.1.hb (dcs_get dec_law_5 26 rfl) (by decide) (fun hc => ?_) (fun hc => ?_)
      · rw [if_pos hc] at hf
        obtain ⟨v89, e_v89, hf⟩ := cL_some hf
        refine lv_iinc (v := v89) (lv' := [(3, .int v89), (0, .ref b), (1, .ref (ad1 0)), (2, .ref (ad2 0))]) X.1.hx X.1.hb (dcs_get dec_law_20 18 rfl) hl (k := 3) rfl (by rw [e_v89]; rfl) (by decide) rfl (fun ls hl => ?_)
        refine lv_goto (tgt := 18) X.1.hx X.1.hb (dcs_get dec_law_20 19 rfl) (by decide) ?_
        exact hb (v89, σ82, τ88) (Option.some.inj hf).symm _ _ _ w (lv_sub hl [1, 2, 3, 0] rfl)
      · rw [if_neg hc] at hf
        refine lv_iconst (v := (0 : Int32)) X.1.hx X.1.hb (dcs_get dec_law_5 27 rfl) (by decide) ?_
        exact absurd (hr _ (Option.some.inj hf).symm) (by decide)
    · rw [if_neg hc] at hf
      refine lv_iconst (v := (1 : Int32)) X.1.hx X.1.hb (dcs_get dec_law_5 22 rfl) (by decide) ?_
      refine lv_goto (tgt := 417) X.1.hx X.1.hb (dcs_get dec_law_5 23 rfl) (by decide) ?_
      obtain ⟨v91, τ92, h90, hf⟩ := cC_some hf
      refine a_i2 (k_V (K := kM) (c0 := 0) (As := [.int (xs (i + (1 : Int32)).toNatClampNeg), .int (xs (i + (2 : Int32)).toNatClampNeg), .int (1 : Int32)]) (rest := [.int v81]) cls12 lb_X12_drum lv_X12_drum q_1380 (C_X12_drum X.2.1.2.2.1 0 (xs (i + (1 : Int32)).toNatClampNeg) (xs (i + (2 : Int32)).toNatClampNeg) (1 : Int32) τ h90 ok12) ⟨Nat.le_of_ble_eq_true rfl, Nat.le_of_ble_eq_true rfl⟩ X.2.1 ⟨w.2.1, w.2.2⟩ (okr_in ok12).1 (okr_in ok12).2 rfl rfl hl.1 (Nat.le_of_ble_eq_true rfl) (dcs_get dec_law_5 25 rfl) ⟨Nat.le_of_ble_eq_true rfl, Nat.le_of_ble_eq_true rfl⟩) X w (fun H locs w => ?_)
      refine lv_icmp_eq (tgt := 1160) X.1.hx X.1.hb (dcs_get dec_law_5 26 rfl) (by decide) (fun hc => ?_) (fun hc => ?_)
      · rw [if_pos hc] at hf
        obtain ⟨v93, e_v93, hf⟩ := cL_some hf
        refine lv_iinc (v := v93) (lv' := [(3, .int v93), (0, .ref b), (1, .ref (ad1 0)), (2, .ref (ad2 0))]) X.1.hx X.1.hb (dcs_get dec_law_20 18 rfl) hl (k := 3) rfl (by rw [e_v93]; rfl) (by decide) rfl (fun ls hl => ?_)
        refine lv_goto (tgt := 18) X.1.hx X.1.hb (dcs_get dec_law_20 19 rfl) (by decide) ?_
        exact hb (v93, σ82, τ92) (Option.some.inj hf).symm _ _ _ w (lv_sub hl [1, 2, 3, 0] rfl)
      · rw [if_neg hc] at hf
        refine lv_iconst (v := (0 : Int32)) X.1.hx X.1.hb (dcs_get dec_law_5 27 rfl) (by decide) ?_
        exact absurd (hr _ (Option.some.inj hf).symm) (by decide)
set_option maxRecDepth 100000 in
set_option maxHeartbeats 8000000 in
theorem B_law_425 {H : Heap} {locs : List Loc} {ls : Array Slot} {o : (Int32 × hSt × hSt) ⊕ Int32} (X : LC p s m meth c D ay ad1 ad2 b L xs) (i : Int32) (σ τ : hSt) (hf : F_law_425 xs L i σ τ = some o) (hb : ∀ (v : Int32 × hSt × hSt), o = .inl v → ∀ (H : Heap) (locs : List Loc) (ls : Array Slot), WL D ay ad1 ad2 s v.2.1 v.2.2 H locs → lv_has ls 4 [(0, .ref b), (1, .ref (ad1 0)), (2, .ref (ad2 0)), (3, .int v.1)] → W p l e room_1 s m #[Value.ref b] below meth c H locs 293 37911 (lw_Z below #[Value.ref b] s) (F0 m 18 ls [])) (hr : ∀ x, o = .inr x → x = 1) (w : WL D ay ad1 ad2 s σ τ H locs) (hl : lv_has ls 4 [(0, .ref b), (1, .ref (ad1 0)), (2, .ref (ad2 0)), (3, .int i)]) : W p l e room_1 s m #[Value.ref b] below meth c H locs 293 37911 (lw_Z below #[Value.ref b] s) (F0 m 425 ls []) := by
  unfold F_law_425 at hf
  refine lv_aload_n X.1.hx X.1.hb (dcs_get dec_law_5 29 rfl) rfl (lv_at hl 1 rfl) ?_
  refine lv_aload_n X.1.hx X.1.hb (dcs_get dec_law_5 30 rfl) rfl (lv_at hl 0 rfl) ?_
  refine lv_iload_n X.1.hx X.1.hb (dcs_get dec_law_5 31 rfl) rfl (lv_at hl 3 rfl) ?_
  refine lv_iconst (v := (1 : Int32)) X.1.hx X.1.hb (dcs_get dec_law_5 32 rfl) (by decide) ?_
  refine lv_iadd X.1.hx X.1.hb (dcs_get dec_law_5 33 rfl) ?_
  obtain ⟨h94, hf⟩ := cG_some hf
  refine va_sld X.1.hx X.1.hb X.2.2.2.1 X.2.2.2.2.1 (Nat.not_le.mpr X.2.2.2.2.1) w.2.2 (inb_in h94) (dcs_get dec_law_5 34 rfl) ?_
  refine lv_aload_n X.1.hx X.1.hb (dcs_get dec_law_5 35 rfl) rfl (lv_at hl 0 rfl) ?_
  refine lv_iload_n X.1.hx X.1.hb (dcs_get dec_law_5 36 rfl) rfl (lv_at hl 3 rfl) ?_
  refine lv_iconst (v := (2 : Int32)) X.1.hx X.1.hb (dcs_get dec_law_5 37 rfl) (by decide) ?_
  refine lv_iadd X.1.hx X.1.hb (dcs_get dec_law_5 38 rfl) ?_
  obtain ⟨h95, hf⟩ := cG_some hf
  refine va_sld X.1.hx X.1.hb X.2.2.2.1 X.2.2.2.2.1 (Nat.not_le.mpr X.2.2.2.2.1) w.2.2 (inb_in h95) (dcs_get dec_law_5 39 rfl) ?_
  refine lv_aload_n X.1.hx X.1.hb (dcs_get dec_law_6 0 rfl) rfl (lv_at hl 0 rfl) ?_
  refine lv_iload_n X.1.hx X.1.hb (dcs_get dec_law_6 1 rfl) rfl (lv_at hl 3 rfl) ?_
  refine lv_iconst (v := (3 : Int32)) X.1.hx X.1.hb (dcs_get dec_law_6 2 rfl) (by decide) ?_
  refine lv_iadd X.1.hx X.1.hb (dcs_get dec_law_6 3 rfl) ?_
  obtain ⟨h96, hf⟩ := cG_some hf
  refine va_sld X.1.hx X.1.hb X.2.2.2.1 X.2.2.2.2.1 (Nat.not_le.mpr X.2.2.2.2.1) w.2.2 (inb_in h96) (dcs_get dec_law_6 4 rfl) ?_
  refine lv_if_eq (tgt := 448) X.1.hx X.1.hb (dcs_get dec_law_6 5 rfl) (by decide) (fun hc => ?_) (fun hc => ?_)
  · rw [if_pos hc] at hf
    refine lv_iconst (v := (0 : Int32)) X.1.hx X.1.hb (dcs_get dec_law_6 8 rfl) (by decide) ?_
    obtain ⟨v98, h97, hf⟩ := cB_some hf
    refine a_i1 (k_V (K := kC) (c0 := 0) (As := [.int (xs (i + (1 : Int32)).toNatClampNeg), .int (xs (i + (2 : Int32)).toNatClampNeg), .int (0 : Int32)]) (rest := []) cls11 lb_X11_may lv_X11_may q_789 (C_X11_may X.1.2.2.1 0 (xs (i + (1 : Int32)).toNatClampNeg) (xs (i + (2 : Int32)).toNatClampNeg) (0 : Int32) σ h97 ok11) ⟨Nat.le_of_ble_eq_true rfl, Nat.le_of_ble_eq_true rfl⟩ X.1 ⟨w.1, w.2.2⟩ (okr_in ok11).1 (okr_in ok11).2 rfl rfl hl.1 (Nat.le_of_ble_eq_true rfl) (dcs_get dec_law_6 9 rfl) ⟨Nat.le_of_ble_eq_true rfl, Nat.le_of_ble_eq_true rfl⟩) X w (fun H locs w => ?_)
    refine lv_aload_n X.1.hx X.1.hb (dcs_get dec_law_6 10 rfl) rfl (lv_at hl 2 rfl) ?_
    refine lv_aload_n X.1.hx X.1.hb (dcs_get dec_law_6 11 rfl) rfl (lv_at hl 0 rfl) ?_
    refine lv_iload_n X.1.hx X.1.hb (dcs_get dec_law_6 12 rfl) rfl (lv_at hl 3 rfl) ?_
    refine lv_iconst (v := (1 : Int32)) X.1.hx X.1.hb (dcs_get dec_law_6 13 rfl) (by decide) ?_
    refine lv_iadd X.1.hx X.1.hb (dcs_get dec_law_6 14 rfl) ?_
    obtain ⟨h99, hf⟩ := cG_some hf
    refine va_sld X.1.hx X.1.hb X.2.2.2.1 X.2.2.2.2.1 (Nat.not_le.mpr X.2.2.2.2.1) w.2.2 (inb_in h99) (dcs_get dec_law_6 15 rfl) ?_
    refine lv_aload_n X.1.hx X.1.hb (dcs_get dec_law_6 16 rfl) rfl (lv_at hl 0 rfl) ?_
    refine lv_iload_n X.1.hx X.1.hb (dcs_get dec_law_6 17 rfl) rfl (lv_at hl 3 rfl) ?_
    refine lv_iconst (v := (2 : Int32)) X.1.hx X.1.hb (dcs_get dec_law_6 18 rfl) (by decide) ?_
    refine lv_iadd X.1.hx X.1.hb (dcs_get dec_law_6 19 rfl) ?_
    obtain ⟨h100, hf⟩ := cG_some hf
    refine va_sld X.1.hx X.1.hb X.2.2.2.1 X.2.2.2.2.1 (Nat.not_le.mpr X.2.2.2.2.1) w.2.2 (inb_in h100) (dcs_get dec_law_6 20 rfl) ?_
    refine lv_aload_n X.1.hx X.1.hb (dcs_get dec_law_6 21 rfl) rfl (lv_at hl 0 rfl) ?_
    refine lv_iload_n X.1.hx X.1.hb (dcs_get dec_law_6 22 rfl) rfl (lv_at hl 3 rfl) ?_
    refine lv_iconst (v := (3 : Int32)) X.1.hx X.1.hb (dcs_get dec_law_6 23 rfl) (by decide) ?_
    refine lv_iadd X.1.hx X.1.hb (dcs_get dec_law_6 24 rfl) ?_
    obtain ⟨h101, hf⟩ := cG_some hf
    refine va_sld X.1.hx X.1.hb X.2.2.2.1 X.2.2.2.2.1 (Nat.not_le.mpr X.2.2.2.2.1) w.2.2 (inb_in h101) (dcs_get dec_law_6 25 rfl) ?_
    refine lv_if_eq (tgt := 475) X.1.hx X.1.hb (dcs_get dec_law_6 26 rfl) (by decide) (fun hc => ?_) (fun hc => ?_)
    · rw [if_pos hc] at hf
      refine lv_iconst (v := (0 : Int32)) X.1.hx X.1.hb (dcs_get dec_law_6 29 rfl) (by decide) ?_
      obtain ⟨v103, τ104, h102, hf⟩ := cC_some hf
      refine a_i2 (k_V (K := kM) (c0 := 0) (As := [.int (xs (i + (1 : Int32)).toNatClampNeg), .int (xs (i + (2 : Int32)).toNatClampNeg), .int (0 : Int32)]) (rest := [.int v98]) cls12 lb_X12_may lv_X12_may q_1416 (C_X12_may X.2.1.2.2.1 0 (xs (i + (1 : Int32)).toNatClampNeg) (xs (i + (2 : Int32)).toNatClampNeg) (0 : Int32) τ h102 ok12) ⟨Nat.le_of_ble_eq_true rfl, Nat.le_of_ble_eq_true rfl⟩ X.2.1 ⟨w.2.1, w.2.2⟩ (okr_in ok12).1 (okr_in ok12).2 rfl rfl hl.1 (Nat.le_of_ble_eq_true rfl) (dcs_get dec_law_6 30 rfl) ⟨Nat.le_of_ble_eq_true rfl, Nat.le_of_ble_eq_true rfl⟩) X w (fun H locs w => ?_)
      refine lv_icmp_eq (tgt := 1160) X.1.hx X.1.hb (dcs_get dec_law_6 31 rfl) (by decide) (fun hc => ?_) (fun hc => ?_)
      · rw [if_pos hc] at hf
        obtain ⟨v105, e_v105, hf⟩ := cL_some hf
        refine lv_iinc (v := v105) (lv' := [(3, .int v105), (0, .ref b), (1, .ref (ad1 0)), (2, .ref (ad2 0))]) X.1.hx X.1.hb (dcs_get dec_law_20 18 rfl) hl (k := 3) rfl (by rw [e_v105]; rfl) (by decide) rfl (fun ls hl => ?_)
        refine lv_goto (tgt := 18) X.1.hx X.1.hb (dcs_get dec_law_20 19 rfl) (by decide) ?_
        exact hb (v105, σ, τ104) (Option.some.inj hf).symm _ _ _ w (lv_sub hl [1, 2, 3, 0] rfl)
      · rw [if_neg hc] at hf
        refine lv_iconst (v := (0 : Int32)) X.1.hx X.1.hb (dcs_get dec_law_6 32 rfl) (by decide) ?_
        exact absurd (hr _ (Option.some.inj hf).symm) (by decide)
    · rw [if_neg hc] at hf
      refine lv_iconst (v := (1 : Int32)) X.1.hx X.1.hb (dcs_get dec_law_6 27 rfl) (by decide) ?_
      refine lv_goto (tgt := 476) X.1.hx X.1.hb (dcs_get dec_law_6 28 rfl) (by decide) ?_
      obtain ⟨v107, τ108, h106, hf⟩ := cC_some hf
      refine a_i2 (k_V (K := kM) (c0 := 0) (As := [.int (xs (i + (1 : Int32)).toNatClampNeg), .int (xs (i + (2 : Int32)).toNatClampNeg), .int (1 : Int32)]) (rest := [.int v98]) cls12 lb_X12_may lv_X12_may q_1416 (C_X12_may X.2.1.2.2.1 0 (xs (i + (1 : Int32)).toNatClampNeg) (xs (i + (2 : Int32)).toNatClampNeg) (1 : Int32) τ h106 ok12) ⟨Nat.le_of_ble_eq_true rfl, Nat.le_of_ble_eq_true rfl⟩ X.2.1 ⟨w.2.1, w.2.2⟩ (okr_in ok12).1 (okr_in ok12).2 rfl rfl hl.1 (Nat.le_of_ble_eq_true rfl) (dcs_get dec_law_6 30 rfl) ⟨Nat.le_of_ble_eq_true rfl, Nat.le_of_ble_eq_true rfl⟩) X w (fun H locs w => ?_)
      refine lv_icmp_eq (tgt := 1160) X.1.hx X.1.hb (dcs_get dec_law_6 31 rfl) (by decide) (fun hc => ?_) (fun hc => ?_)
      · rw [if_pos hc] at hf
        obtain ⟨v109, e_v109, hf⟩ := cL_some hf
        refine lv_iinc (v := v109) (lv' := [(3, .int v109), (0, .ref b), (1, .ref (ad1 0)), (2, .ref (ad2 0))]) X.1.hx X.1.hb (dcs_get dec_law_20 18 rfl) hl (k := 3) rfl (by rw [e_v109]; rfl) (by decide) rfl (fun ls hl => ?_)
        refine lv_goto (tgt := 18) X.1.hx X.1.hb (dcs_get dec_law_20 19 rfl) (by decide) ?_
        exact hb (v109, σ, τ108) (Option.some.inj hf).symm _ _ _ w (lv_sub hl [1, 2, 3, 0] rfl)
      · rw [if_neg hc] at hf
        refine lv_iconst (v := (0 : Int32)) X.1.hx X.1.hb (dcs_get dec_law_6 32 rfl) (by decide) ?_
        exact absurd (hr _ (Option.some.inj hf).symm) (by decide)
  · rw [if_neg hc] at hf
    refine lv_iconst (v := (1 : Int32)) X.1.hx X.1.hb (dcs_get dec_law_6 6 rfl) (by decide) ?_
    refine lv_goto (tgt := 449) X.1.hx X.1.hb (dcs_get dec_law_6 7 rfl) (by decide) ?_
    obtain ⟨v111, h110, hf⟩ := cB_some hf
    refine a_i1 (k_V (K := kC) (c0 := 0) (As := [.int (xs (i + (1 : Int32)).toNatClampNeg), .int (xs (i + (2 : Int32)).toNatClampNeg), .int (1 : Int32)]) (rest := []) cls11 lb_X11_may lv_X11_may q_789 (C_X11_may X.1.2.2.1 0 (xs (i + (1 : Int32)).toNatClampNeg) (xs (i + (2 : Int32)).toNatClampNeg) (1 : Int32) σ h110 ok11) ⟨Nat.le_of_ble_eq_true rfl, Nat.le_of_ble_eq_true rfl⟩ X.1 ⟨w.1, w.2.2⟩ (okr_in ok11).1 (okr_in ok11).2 rfl rfl hl.1 (Nat.le_of_ble_eq_true rfl) (dcs_get dec_law_6 9 rfl) ⟨Nat.le_of_ble_eq_true rfl, Nat.le_of_ble_eq_true rfl⟩) X w (fun H locs w => ?_)
    refine lv_aload_n X.1.hx X.1.hb (dcs_get dec_law_6 10 rfl) rfl (lv_at hl 2 rfl) ?_
    refine lv_aload_n X.1.hx X.1.hb (dcs_get dec_law_6 11 rfl) rfl (lv_at hl 0 rfl) ?_
    refine lv_iload_n X.1.hx X.1.hb (dcs_get dec_law_6 12 rfl) rfl (lv_at hl 3 rfl) ?_
    refine lv_iconst (v := (1 : Int32)) X.1.hx X.1.hb (dcs_get dec_law_6 13 rfl) (by decide) ?_
    refine lv_iadd X.1.hx X.1.hb (dcs_get dec_law_6 14 rfl) ?_
    obtain ⟨h112, hf⟩ := cG_some hf
    refine va_sld X.1.hx X.1.hb X.2.2.2.1 X.2.2.2.2.1 (Nat.not_le.mpr X.2.2.2.2.1) w.2.2 (inb_in h112) (dcs_get dec_law_6 15 rfl) ?_
    refine lv_aload_n X.1.hx X.1.hb (dcs_get dec_law_6 16 rfl) rfl (lv_at hl 0 rfl) ?_
    refine lv_iload_n X.1.hx X.1.hb (dcs_get dec_law_6 17 rfl) rfl (lv_at hl 3 rfl) ?_
    refine lv_iconst (v := (2 : Int32)) X.1.hx X.1.hb (dcs_get dec_law_6 18 rfl) (by decide) ?_
    refine lv_iadd X.1.hx X.1.hb (dcs_get dec_law_6 19 rfl) ?_
    obtain ⟨h113, hf⟩ := cG_some hf
    refine va_sld X.1.hx X.1.hb X.2.2.2.1 X.2.2.2.2.1 (Nat.not_le.mpr X.2.2.2.2.1) w.2.2 (inb_in h113) (dcs_get dec_law_6 20 rfl) ?_
    refine lv_aload_n X.1.hx X.1.hb (dcs_get dec_law_6 21 rfl) rfl (lv_at hl 0 rfl) ?_
    refine lv_iload_n X.1.hx X.1.hb (dcs_get dec_law_6 22 rfl) rfl (lv_at hl 3 rfl) ?_
    refine lv_iconst (v := (3 : Int32)) X.1.hx X.1.hb (dcs_get dec_law_6 23 rfl) (by decide) ?_
    refine lv_iadd X.1.hx X.1.hb (dcs_get dec_law_6 24 rfl) ?_
    obtain ⟨h114, hf⟩ := cG_some hf
    refine va_sld X.1.hx X.1.hb X.2.2.2.1 X.2.2.2.2.1 (Nat.not_le.mpr X.2.2.2.2.1) w.2.2 (inb_in h114) (dcs_get dec_law_6 25 rfl) ?_
    refine lv_if_eq (tgt := 475) X.1.hx X.1.hb (dcs_get dec_law_6 26 rfl) (by decide) (fun hc => ?_) (fun hc => ?_)
    · rw [if_pos hc] at hf
      refine lv_iconst (v := (0 : Int32)) X.1.hx X.1.hb (dcs_get dec_law_6 29 rfl) (by decide) ?_
      obtain ⟨v116, τ117, h115, hf⟩ := cC_some hf
      refine a_i2 (k_V (K := kM) (c0 := 0) (As := [.int (xs (i + (1 : Int32)).toNatClampNeg), .int (xs (i + (2 : Int32)).toNatClampNeg), .int (0 : Int32)]) (rest := [.int v111]) cls12 lb_X12_may lv_X12_may q_1416 (C_X12_may X.2.1.2.2.1 0 (xs (i + (1 : Int32)).toNatClampNeg) (xs (i + (2 : Int32)).toNatClampNeg) (0 : Int32) τ h115 ok12) ⟨Nat.le_of_ble_eq_true rfl, Nat.le_of_ble_eq_true rfl⟩ X.2.1 ⟨w.2.1, w.2.2⟩ (okr_in ok12).1 (okr_in ok12).2 rfl rfl hl.1 (Nat.le_of_ble_eq_true rfl) (dcs_get dec_law_6 30 rfl) ⟨Nat.le_of_ble_eq_true rfl, Nat.le_of_ble_eq_true rfl⟩) X w (fun H locs w => ?_)
      refine lv_icmp_eq (tgt := 1160) X.1.hx X.1.hb (dcs_get dec_law_6 31 rfl) (by decide) (fun hc => ?_) (fun hc => ?_)
      · rw [if_pos hc] at hf
        obtain ⟨v118, e_v118, hf⟩ := cL_some hf
        refine lv_iinc (v := v118) (lv' := [(3, .int v118), (0, .ref b), (1, .ref (ad1 0)), (2, .ref (ad2 0))]) X.1.hx X.1.hb (dcs_get dec_law_20 18 rfl) hl (k := 3) rfl (by rw [e_v118]; rfl) (by decide) rfl (fun ls hl => ?_)
        refine lv_goto (tgt := 18) X.1.hx X.1.hb (dcs_get dec_law_20 19 rfl) (by decide) ?_
        exact hb (v118, σ, τ117) (Option.some.inj hf).symm _ _ _ w (lv_sub hl [1, 2, 3, 0] rfl)
      · rw [if_neg hc] at hf
        refine lv_iconst (v := (0 : Int32)) X.1.hx X.1.hb (dcs_get dec_law_6 32 rfl) (by decide) ?_
        exact absurd (hr _ (Option.some.inj hf).symm) (by decide)
    · rw [if_neg hc] at hf
      refine lv_iconst (v := (1 : Int32)) X.1.hx X.1.hb (dcs_get dec_law_6 27 rfl) (by decide) ?_
      refine lv_goto (tgt := 476) X.1.hx X.1.hb (dcs_get dec_law_6 28 rfl) (by decide) ?_
      obtain ⟨v120, τ121, h119, hf⟩ := cC_some hf
      refine a_i2 (k_V (K := kM) (c0 := 0) (As := [.int (xs (i + (1 : Int32)).toNatClampNeg), .int (xs (i + (2 : Int32)).toNatClampNeg), .int (1 : Int32)]) (rest := [.int v111]) cls12 lb_X12_may lv_X12_may q_1416 (C_X12_may X.2.1.2.2.1 0 (xs (i + (1 : Int32)).toNatClampNeg) (xs (i + (2 : Int32)).toNatClampNeg) (1 : Int32) τ h119 ok12) ⟨Nat.le_of_ble_eq_true rfl, Nat.le_of_ble_eq_true rfl⟩ X.2.1 ⟨w.2.1, w.2.2⟩ (okr_in ok12).1 (okr_in ok12).2 rfl rfl hl.1 (Nat.le_of_ble_eq_true rfl) (dcs_get dec_law_6 30 rfl) ⟨Nat.le_of_ble_eq_true rfl, Nat.le_of_ble_eq_true rfl⟩) X w (fun H locs w => ?_)
      refine lv_icmp_eq (tgt := 1160) X.1.hx X.1.hb (dcs_get dec_law_6 31 rfl) (by decide) (fun hc => ?_) (fun hc => ?_)
      · rw [if_pos hc] at hf
        obtain ⟨v122, e_v122, hf⟩ := cL_some hf
        refine lv_iinc (v := v122) (lv' := [(3, .int v122), (0, .ref b), (1, .ref (ad1 0)), (2, .ref (ad2 0))]) X.1.hx X.1.hb (dcs_get dec_law_20 18 rfl) hl (k := 3) rfl (by rw [e_v122]; rfl) (by decide) rfl (fun ls hl => ?_)
        refine lv_goto (tgt := 18) X.1.hx X.1.hb (dcs_get dec_law_20 19 rfl) (by decide) ?_
        exact hb (v122, σ, τ121) (Option.some.inj hf).symm _ _ _ w (lv_sub hl [1, 2, 3, 0] rfl)
      · rw [if_neg hc] at hf
        refine lv_iconst (v := (0 : Int32)) X.1.hx X.1.hb (dcs_get dec_law_6 32 rfl) (by decide) ?_
        exact absurd (hr _ (Option.some.inj hf).symm) (by decide)
set_option maxRecDepth 100000 in
set_option maxHeartbeats 8000000 in
theorem B_law_484 {H : Heap} {locs : List Loc} {ls : Array Slot} {o : (Int32 × hSt × hSt) ⊕ Int32} (X : LC p s m meth c D ay ad1 ad2 b L xs) (i : Int32) (σ τ : hSt) (hf : F_law_484 xs L i σ τ = some o) (hb : ∀ (v : Int32 × hSt × hSt), o = .inl v → ∀ (H : Heap) (locs : List Loc) (ls : Array Slot), WL D ay ad1 ad2 s v.2.1 v.2.2 H locs → lv_has ls 4 [(0, .ref b), (1, .ref (ad1 0)), (2, .ref (ad2 0)), (3, .int v.1)] → W p l e room_1 s m #[Value.ref b] below meth c H locs 293 37911 (lw_Z below #[Value.ref b] s) (F0 m 18 ls [])) (hr : ∀ x, o = .inr x → x = 1) (w : WL D ay ad1 ad2 s σ τ H locs) (hl : lv_has ls 4 [(0, .ref b), (1, .ref (ad1 0)), (2, .ref (ad2 0)), (3, .int i)]) : W p l e room_1 s m #[Value.ref b] below meth c H locs 293 37911 (lw_Z below #[Value.ref b] s) (F0 m 484 ls []) := by
  unfold F_law_484 at hf
  refine lv_aload_n X.1.hx X.1.hb (dcs_get dec_law_6 34 rfl) rfl (lv_at hl 1 rfl) ?_
  refine lv_aload_n X.1.hx X.1.hb (dcs_get dec_law_6 35 rfl) rfl (lv_at hl 0 rfl) ?_
  refine lv_iload_n X.1.hx X.1.hb (dcs_get dec_law_6 36 rfl) rfl (lv_at hl 3 rfl) ?_
  refine lv_iconst (v := (1 : Int32)) X.1.hx X.1.hb (dcs_get dec_law_6 37 rfl) (by decide) ?_
  refine lv_iadd X.1.hx X.1.hb (dcs_get dec_law_6 38 rfl) ?_
  obtain ⟨h123, hf⟩ := cG_some hf
  refine va_sld X.1.hx X.1.hb X.2.2.2.1 X.2.2.2.2.1 (Nat.not_le.mpr X.2.2.2.2.1) w.2.2 (inb_in h123) (dcs_get dec_law_6 39 rfl) ?_
  refine lv_aload_n X.1.hx X.1.hb (dcs_get dec_law_7 0 rfl) rfl (lv_at hl 0 rfl) ?_
  refine lv_iload_n X.1.hx X.1.hb (dcs_get dec_law_7 1 rfl) rfl (lv_at hl 3 rfl) ?_
  refine lv_iconst (v := (2 : Int32)) X.1.hx X.1.hb (dcs_get dec_law_7 2 rfl) (by decide) ?_
  refine lv_iadd X.1.hx X.1.hb (dcs_get dec_law_7 3 rfl) ?_
  obtain ⟨h124, hf⟩ := cG_some hf
  refine va_sld X.1.hx X.1.hb X.2.2.2.1 X.2.2.2.2.1 (Nat.not_le.mpr X.2.2.2.2.1) w.2.2 (inb_in h124) (dcs_get dec_law_7 4 rfl) ?_
  obtain ⟨v126, h125, hf⟩ := cB_some hf
  refine a_i1 (k_V (K := kC) (c0 := 0) (As := [.int (xs (i + (1 : Int32)).toNatClampNeg), .int (xs (i + (2 : Int32)).toNatClampNeg)]) (rest := []) cls11 lb_X11_drummed lv_X11_drummed q_790 (C_X11_drummed X.1.2.2.1 0 (xs (i + (1 : Int32)).toNatClampNeg) (xs (i + (2 : Int32)).toNatClampNeg) σ h125 ok11) ⟨Nat.le_of_ble_eq_true rfl, Nat.le_of_ble_eq_true rfl⟩ X.1 ⟨w.1, w.2.2⟩ (okr_in ok11).1 (okr_in ok11).2 rfl rfl hl.1 (Nat.le_of_ble_eq_true rfl) (dcs_get dec_law_7 5 rfl) ⟨Nat.le_of_ble_eq_true rfl, Nat.le_of_ble_eq_true rfl⟩) X w (fun H locs w => ?_)
  refine lv_aload_n X.1.hx X.1.hb (dcs_get dec_law_7 6 rfl) rfl (lv_at hl 2 rfl) ?_
  refine lv_aload_n X.1.hx X.1.hb (dcs_get dec_law_7 7 rfl) rfl (lv_at hl 0 rfl) ?_
  refine lv_iload_n X.1.hx X.1.hb (dcs_get dec_law_7 8 rfl) rfl (lv_at hl 3 rfl) ?_
  refine lv_iconst (v := (1 : Int32)) X.1.hx X.1.hb (dcs_get dec_law_7 9 rfl) (by decide) ?_
  refine lv_iadd X.1.hx X.1.hb (dcs_get dec_law_7 10 rfl) ?_
  obtain ⟨h127, hf⟩ := cG_some hf
  refine va_sld X.1.hx X.1.hb X.2.2.2.1 X.2.2.2.2.1 (Nat.not_le.mpr X.2.2.2.2.1) w.2.2 (inb_in h127) (dcs_get dec_law_7 11 rfl) ?_
  refine lv_aload_n X.1.hx X.1.hb (dcs_get dec_law_7 12 rfl) rfl (lv_at hl 0 rfl) ?_
  refine lv_iload_n X.1.hx X.1.hb (dcs_get dec_law_7 13 rfl) rfl (lv_at hl 3 rfl) ?_
  refine lv_iconst (v := (2 : Int32)) X.1.hx X.1.hb (dcs_get dec_law_7 14 rfl) (by decide) ?_
  refine lv_iadd X.1.hx X.1.hb (dcs_get dec_law_7 15 rfl) ?_
  obtain ⟨h128, hf⟩ := cG_some hf
  refine va_sld X.1.hx X.1.hb X.2.2.2.1 X.2.2.2.2.1 (Nat.not_le.mpr X.2.2.2.2.1) w.2.2 (inb_in h128) (dcs_get dec_law_7 16 rfl) ?_
  obtain ⟨v130, h129, hf⟩ := cB_some hf
  refine a_i2 (k_V (K := kM) (c0 := 0) (As := [.int (xs (i + (1 : Int32)).toNatClampNeg), .int (xs (i + (2 : Int32)).toNatClampNeg)]) (rest := [.int v126]) cls12 lb_X12_drummed lv_X12_drummed q_1420 (C_X12_drummed X.2.1.2.2.1 0 (xs (i + (1 : Int32)).toNatClampNeg) (xs (i + (2 : Int32)).toNatClampNeg) τ h129 ok12) ⟨Nat.le_of_ble_eq_true rfl, Nat.le_of_ble_eq_true rfl⟩ X.2.1 ⟨w.2.1, w.2.2⟩ (okr_in ok12).1 (okr_in ok12).2 rfl rfl hl.1 (Nat.le_of_ble_eq_true rfl) (dcs_get dec_law_7 17 rfl) ⟨Nat.le_of_ble_eq_true rfl, Nat.le_of_ble_eq_true rfl⟩) X w (fun H locs w => ?_)
  refine lv_icmp_eq (tgt := 1160) X.1.hx X.1.hb (dcs_get dec_law_7 18 rfl) (by decide) (fun hc => ?_) (fun hc => ?_)
  · rw [if_pos hc] at hf
    obtain ⟨v131, e_v131, hf⟩ := cL_some hf
    refine lv_iinc (v := v131) (lv' := [(3, .int v131), (0, .ref b), (1, .ref (ad1 0)), (2, .ref (ad2 0))]) X.1.hx X.1.hb (dcs_get dec_law_20 18 rfl) hl (k := 3) rfl (by rw [e_v131]; rfl) (by decide) rfl (fun ls hl => ?_)
    refine lv_goto (tgt := 18) X.1.hx X.1.hb (dcs_get dec_law_20 19 rfl) (by decide) ?_
    exact hb (v131, σ, τ) (Option.some.inj hf).symm _ _ _ w (lv_sub hl [1, 2, 3, 0] rfl)
  · rw [if_neg hc] at hf
    refine lv_iconst (v := (0 : Int32)) X.1.hx X.1.hb (dcs_get dec_law_7 19 rfl) (by decide) ?_
    exact absurd (hr _ (Option.some.inj hf).symm) (by decide)
set_option maxRecDepth 100000 in
set_option maxHeartbeats 8000000 in
theorem B_law_517 {H : Heap} {locs : List Loc} {ls : Array Slot} {o : (Int32 × hSt × hSt) ⊕ Int32} (X : LC p s m meth c D ay ad1 ad2 b L xs) (i : Int32) (σ τ : hSt) (hf : F_law_517 xs L i σ τ = some o) (hb : ∀ (v : Int32 × hSt × hSt), o = .inl v → ∀ (H : Heap) (locs : List Loc) (ls : Array Slot), WL D ay ad1 ad2 s v.2.1 v.2.2 H locs → lv_has ls 4 [(0, .ref b), (1, .ref (ad1 0)), (2, .ref (ad2 0)), (3, .int v.1)] → W p l e room_1 s m #[Value.ref b] below meth c H locs 293 37911 (lw_Z below #[Value.ref b] s) (F0 m 18 ls [])) (hr : ∀ x, o = .inr x → x = 1) (w : WL D ay ad1 ad2 s σ τ H locs) (hl : lv_has ls 4 [(0, .ref b), (1, .ref (ad1 0)), (2, .ref (ad2 0)), (3, .int i)]) : W p l e room_1 s m #[Value.ref b] below meth c H locs 293 37911 (lw_Z below #[Value.ref b] s) (F0 m 517 ls []) := by
  unfold F_law_517 at hf
  refine lv_aload_n X.1.hx X.1.hb (dcs_get dec_law_7 21 rfl) rfl (lv_at hl 1 rfl) ?_
  obtain ⟨v133, σ134, h132, hf⟩ := cC_some hf
  refine a_i1 (k_V (K := kC) (c0 := 0) (As := []) (rest := []) cls11 lb_X11_night lv_X11_night q_794 (C_X11_night X.1.2.2.1 0  σ h132 ok11) ⟨Nat.le_of_ble_eq_true rfl, Nat.le_of_ble_eq_true rfl⟩ X.1 ⟨w.1, w.2.2⟩ (okr_in ok11).1 (okr_in ok11).2 rfl rfl hl.1 (Nat.le_of_ble_eq_true rfl) (dcs_get dec_law_7 22 rfl) ⟨Nat.le_of_ble_eq_true rfl, Nat.le_of_ble_eq_true rfl⟩) X w (fun H locs w => ?_)
  refine lv_aload_n X.1.hx X.1.hb (dcs_get dec_law_7 23 rfl) rfl (lv_at hl 2 rfl) ?_
  obtain ⟨v136, τ137, h135, hf⟩ := cC_some hf
  refine a_i2 (k_V (K := kM) (c0 := 0) (As := []) (rest := [.int v133]) cls12 lb_X12_night lv_X12_night q_1424 (C_X12_night X.2.1.2.2.1 0  τ h135 ok12) ⟨Nat.le_of_ble_eq_true rfl, Nat.le_of_ble_eq_true rfl⟩ X.2.1 ⟨w.2.1, w.2.2⟩ (okr_in ok12).1 (okr_in ok12).2 rfl rfl hl.1 (Nat.le_of_ble_eq_true rfl) (dcs_get dec_law_7 24 rfl) ⟨Nat.le_of_ble_eq_true rfl, Nat.le_of_ble_eq_true rfl⟩) X w (fun H locs w => ?_)
  refine lv_icmp_eq (tgt := 1160) X.1.hx X.1.hb (dcs_get dec_law_7 25 rfl) (by decide) (fun hc => ?_) (fun hc => ?_)
  · rw [if_pos hc] at hf
    obtain ⟨v138, e_v138, hf⟩ := cL_some hf
    refine lv_iinc (v := v138) (lv' := [(3, .int v138), (0, .ref b), (1, .ref (ad1 0)), (2, .ref (ad2 0))]) X.1.hx X.1.hb (dcs_get dec_law_20 18 rfl) hl (k := 3) rfl (by rw [e_v138]; rfl) (by decide) rfl (fun ls hl => ?_)
    refine lv_goto (tgt := 18) X.1.hx X.1.hb (dcs_get dec_law_20 19 rfl) (by decide) ?_
    exact hb (v138, σ134, τ137) (Option.some.inj hf).symm _ _ _ w (lv_sub hl [1, 2, 3, 0] rfl)
  · rw [if_neg hc] at hf
    refine lv_iconst (v := (0 : Int32)) X.1.hx X.1.hb (dcs_get dec_law_7 26 rfl) (by decide) ?_
    exact absurd (hr _ (Option.some.inj hf).symm) (by decide)
set_option maxRecDepth 100000 in
set_option maxHeartbeats 8000000 in
theorem B_law_530 {H : Heap} {locs : List Loc} {ls : Array Slot} {o : (Int32 × hSt × hSt) ⊕ Int32} (X : LC p s m meth c D ay ad1 ad2 b L xs) (i : Int32) (σ τ : hSt) (hf : F_law_530 xs L i σ τ = some o) (hb : ∀ (v : Int32 × hSt × hSt), o = .inl v → ∀ (H : Heap) (locs : List Loc) (ls : Array Slot), WL D ay ad1 ad2 s v.2.1 v.2.2 H locs → lv_has ls 4 [(0, .ref b), (1, .ref (ad1 0)), (2, .ref (ad2 0)), (3, .int v.1)] → W p l e room_1 s m #[Value.ref b] below meth c H locs 293 37911 (lw_Z below #[Value.ref b] s) (F0 m 18 ls [])) (hr : ∀ x, o = .inr x → x = 1) (w : WL D ay ad1 ad2 s σ τ H locs) (hl : lv_has ls 4 [(0, .ref b), (1, .ref (ad1 0)), (2, .ref (ad2 0)), (3, .int i)]) : W p l e room_1 s m #[Value.ref b] below meth c H locs 293 37911 (lw_Z below #[Value.ref b] s) (F0 m 530 ls []) := by
  unfold F_law_530 at hf
  refine lv_aload_n X.1.hx X.1.hb (dcs_get dec_law_7 28 rfl) rfl (lv_at hl 1 rfl) ?_
  refine lv_aload_n X.1.hx X.1.hb (dcs_get dec_law_7 29 rfl) rfl (lv_at hl 0 rfl) ?_
  refine lv_iload_n X.1.hx X.1.hb (dcs_get dec_law_7 30 rfl) rfl (lv_at hl 3 rfl) ?_
  refine lv_iconst (v := (1 : Int32)) X.1.hx X.1.hb (dcs_get dec_law_7 31 rfl) (by decide) ?_
  refine lv_iadd X.1.hx X.1.hb (dcs_get dec_law_7 32 rfl) ?_
  obtain ⟨h139, hf⟩ := cG_some hf
  refine va_sld X.1.hx X.1.hb X.2.2.2.1 X.2.2.2.2.1 (Nat.not_le.mpr X.2.2.2.2.1) w.2.2 (inb_in h139) (dcs_get dec_law_7 33 rfl) ?_
  obtain ⟨v141, σ142, h140, hf⟩ := cC_some hf
  refine a_i1 (k_V (K := kC) (c0 := 0) (As := [.int (xs (i + (1 : Int32)).toNatClampNeg)]) (rest := []) cls11 lb_X11_run lv_X11_run q_804 (C_X11_run X.1.2.2.1 0 (xs (i + (1 : Int32)).toNatClampNeg) σ h140 ok11) ⟨Nat.le_of_ble_eq_true rfl, Nat.le_of_ble_eq_true rfl⟩ X.1 ⟨w.1, w.2.2⟩ (okr_in ok11).1 (okr_in ok11).2 rfl rfl hl.1 (Nat.le_of_ble_eq_true rfl) (dcs_get dec_law_7 34 rfl) ⟨Nat.le_of_ble_eq_true rfl, Nat.le_of_ble_eq_true rfl⟩) X w (fun H locs w => ?_)
  refine lv_aload_n X.1.hx X.1.hb (dcs_get dec_law_7 35 rfl) rfl (lv_at hl 2 rfl) ?_
  refine lv_aload_n X.1.hx X.1.hb (dcs_get dec_law_7 36 rfl) rfl (lv_at hl 0 rfl) ?_
  refine lv_iload_n X.1.hx X.1.hb (dcs_get dec_law_7 37 rfl) rfl (lv_at hl 3 rfl) ?_
  refine lv_iconst (v := (1 : Int32)) X.1.hx X.1.hb (dcs_get dec_law_7 38 rfl) (by decide) ?_
  refine lv_iadd X.1.hx X.1.hb (dcs_get dec_law_7 39 rfl) ?_
  obtain ⟨h143, hf⟩ := cG_some hf
  refine va_sld X.1.hx X.1.hb X.2.2.2.1 X.2.2.2.2.1 (Nat.not_le.mpr X.2.2.2.2.1) w.2.2 (inb_in h143) (dcs_get dec_law_8 0 rfl) ?_
  obtain ⟨v145, τ146, h144, hf⟩ := cC_some hf
  refine a_i2 (k_V (K := kM) (c0 := 0) (As := [.int (xs (i + (1 : Int32)).toNatClampNeg)]) (rest := [.int v141]) cls12 lb_X12_run lv_X12_run q_1432 (C_X12_run X.2.1.2.2.1 0 (xs (i + (1 : Int32)).toNatClampNeg) τ h144 ok12) ⟨Nat.le_of_ble_eq_true rfl, Nat.le_of_ble_eq_true rfl⟩ X.2.1 ⟨w.2.1, w.2.2⟩ (okr_in ok12).1 (okr_in ok12).2 rfl rfl hl.1 (Nat.le_of_ble_eq_true rfl) (dcs_get dec_law_8 1 rfl) ⟨Nat.le_of_ble_eq_true rfl, Nat.le_of_ble_eq_true rfl⟩) X w (fun H locs w => ?_)
  refine lv_icmp_eq (tgt := 1160) X.1.hx X.1.hb (dcs_get dec_law_8 2 rfl) (by decide) (fun hc => ?_) (fun hc => ?_)
  · rw [if_pos hc] at hf
    obtain ⟨v147, e_v147, hf⟩ := cL_some hf
    refine lv_iinc (v := v147) (lv' := [(3, .int v147), (0, .ref b), (1, .ref (ad1 0)), (2, .ref (ad2 0))]) X.1.hx X.1.hb (dcs_get dec_law_20 18 rfl) hl (k := 3) rfl (by rw [e_v147]; rfl) (by decide) rfl (fun ls hl => ?_)
    refine lv_goto (tgt := 18) X.1.hx X.1.hb (dcs_get dec_law_20 19 rfl) (by decide) ?_
    exact hb (v147, σ142, τ146) (Option.some.inj hf).symm _ _ _ w (lv_sub hl [1, 2, 3, 0] rfl)
  · rw [if_neg hc] at hf
    refine lv_iconst (v := (0 : Int32)) X.1.hx X.1.hb (dcs_get dec_law_8 3 rfl) (by decide) ?_
    exact absurd (hr _ (Option.some.inj hf).symm) (by decide)
set_option maxRecDepth 100000 in
set_option maxHeartbeats 8000000 in
theorem B_law_553 {H : Heap} {locs : List Loc} {ls : Array Slot} {o : (Int32 × hSt × hSt) ⊕ Int32} (X : LC p s m meth c D ay ad1 ad2 b L xs) (i : Int32) (σ τ : hSt) (hf : F_law_553 xs L i σ τ = some o) (hb : ∀ (v : Int32 × hSt × hSt), o = .inl v → ∀ (H : Heap) (locs : List Loc) (ls : Array Slot), WL D ay ad1 ad2 s v.2.1 v.2.2 H locs → lv_has ls 4 [(0, .ref b), (1, .ref (ad1 0)), (2, .ref (ad2 0)), (3, .int v.1)] → W p l e room_1 s m #[Value.ref b] below meth c H locs 293 37911 (lw_Z below #[Value.ref b] s) (F0 m 18 ls [])) (hr : ∀ x, o = .inr x → x = 1) (w : WL D ay ad1 ad2 s σ τ H locs) (hl : lv_has ls 4 [(0, .ref b), (1, .ref (ad1 0)), (2, .ref (ad2 0)), (3, .int i)]) : W p l e room_1 s m #[Value.ref b] below meth c H locs 293 37911 (lw_Z below #[Value.ref b] s) (F0 m 553 ls []) := by
  unfold F_law_553 at hf
  refine lv_aload_n X.1.hx X.1.hb (dcs_get dec_law_8 5 rfl) rfl (lv_at hl 1 rfl) ?_
  obtain ⟨v149, σ150, h148, hf⟩ := cC_some hf
  refine a_i1 (k_V (K := kC) (c0 := 0) (As := []) (rest := []) cls11 lb_X11_undo lv_X11_undo q_816 (C_X11_undo X.1.2.2.1 0  σ h148 ok11) ⟨Nat.le_of_ble_eq_true rfl, Nat.le_of_ble_eq_true rfl⟩ X.1 ⟨w.1, w.2.2⟩ (okr_in ok11).1 (okr_in ok11).2 rfl rfl hl.1 (Nat.le_of_ble_eq_true rfl) (dcs_get dec_law_8 6 rfl) ⟨Nat.le_of_ble_eq_true rfl, Nat.le_of_ble_eq_true rfl⟩) X w (fun H locs w => ?_)
  refine lv_aload_n X.1.hx X.1.hb (dcs_get dec_law_8 7 rfl) rfl (lv_at hl 2 rfl) ?_
  obtain ⟨v152, τ153, h151, hf⟩ := cC_some hf
  refine a_i2 (k_V (K := kM) (c0 := 0) (As := []) (rest := [.int v149]) cls12 lb_X12_undo lv_X12_undo q_1444 (C_X12_undo X.2.1.2.2.1 0  τ h151 ok12) ⟨Nat.le_of_ble_eq_true rfl, Nat.le_of_ble_eq_true rfl⟩ X.2.1 ⟨w.2.1, w.2.2⟩ (okr_in ok12).1 (okr_in ok12).2 rfl rfl hl.1 (Nat.le_of_ble_eq_true rfl) (dcs_get dec_law_8 8 rfl) ⟨Nat.le_of_ble_eq_true rfl, Nat.le_of_ble_eq_true rfl⟩) X w (fun H locs w => ?_)
  refine lv_icmp_eq (tgt := 1160) X.1.hx X.1.hb (dcs_get dec_law_8 9 rfl) (by decide) (fun hc => ?_) (fun hc => ?_)
  · rw [if_pos hc] at hf
    obtain ⟨v154, e_v154, hf⟩ := cL_some hf
    refine lv_iinc (v := v154) (lv' := [(3, .int v154), (0, .ref b), (1, .ref (ad1 0)), (2, .ref (ad2 0))]) X.1.hx X.1.hb (dcs_get dec_law_20 18 rfl) hl (k := 3) rfl (by rw [e_v154]; rfl) (by decide) rfl (fun ls hl => ?_)
    refine lv_goto (tgt := 18) X.1.hx X.1.hb (dcs_get dec_law_20 19 rfl) (by decide) ?_
    exact hb (v154, σ150, τ153) (Option.some.inj hf).symm _ _ _ w (lv_sub hl [1, 2, 3, 0] rfl)
  · rw [if_neg hc] at hf
    refine lv_iconst (v := (0 : Int32)) X.1.hx X.1.hb (dcs_get dec_law_8 10 rfl) (by decide) ?_
    exact absurd (hr _ (Option.some.inj hf).symm) (by decide)
set_option maxRecDepth 100000 in
set_option maxHeartbeats 8000000 in
theorem B_law_566 {H : Heap} {locs : List Loc} {ls : Array Slot} {o : (Int32 × hSt × hSt) ⊕ Int32} (X : LC p s m meth c D ay ad1 ad2 b L xs) (i : Int32) (σ τ : hSt) (hf : F_law_566 xs L i σ τ = some o) (hb : ∀ (v : Int32 × hSt × hSt), o = .inl v → ∀ (H : Heap) (locs : List Loc) (ls : Array Slot), WL D ay ad1 ad2 s v.2.1 v.2.2 H locs → lv_has ls 4 [(0, .ref b), (1, .ref (ad1 0)), (2, .ref (ad2 0)), (3, .int v.1)] → W p l e room_1 s m #[Value.ref b] below meth c H locs 293 37911 (lw_Z below #[Value.ref b] s) (F0 m 18 ls [])) (hr : ∀ x, o = .inr x → x = 1) (w : WL D ay ad1 ad2 s σ τ H locs) (hl : lv_has ls 4 [(0, .ref b), (1, .ref (ad1 0)), (2, .ref (ad2 0)), (3, .int i)]) : W p l e room_1 s m #[Value.ref b] below meth c H locs 293 37911 (lw_Z below #[Value.ref b] s) (F0 m 566 ls []) := by
  unfold F_law_566 at hf
  refine lv_aload_n X.1.hx X.1.hb (dcs_get dec_law_8 12 rfl) rfl (lv_at hl 1 rfl) ?_
  refine lv_aload_n X.1.hx X.1.hb (dcs_get dec_law_8 13 rfl) rfl (lv_at hl 0 rfl) ?_
  refine lv_iload_n X.1.hx X.1.hb (dcs_get dec_law_8 14 rfl) rfl (lv_at hl 3 rfl) ?_
  refine lv_iconst (v := (1 : Int32)) X.1.hx X.1.hb (dcs_get dec_law_8 15 rfl) (by decide) ?_
  refine lv_iadd X.1.hx X.1.hb (dcs_get dec_law_8 16 rfl) ?_
  obtain ⟨h155, hf⟩ := cG_some hf
  refine va_sld X.1.hx X.1.hb X.2.2.2.1 X.2.2.2.2.1 (Nat.not_le.mpr X.2.2.2.2.1) w.2.2 (inb_in h155) (dcs_get dec_law_8 17 rfl) ?_
  refine lv_aload_n X.1.hx X.1.hb (dcs_get dec_law_8 18 rfl) rfl (lv_at hl 0 rfl) ?_
  refine lv_iload_n X.1.hx X.1.hb (dcs_get dec_law_8 19 rfl) rfl (lv_at hl 3 rfl) ?_
  refine lv_iconst (v := (2 : Int32)) X.1.hx X.1.hb (dcs_get dec_law_8 20 rfl) (by decide) ?_
  refine lv_iadd X.1.hx X.1.hb (dcs_get dec_law_8 21 rfl) ?_
  obtain ⟨h156, hf⟩ := cG_some hf
  refine va_sld X.1.hx X.1.hb X.2.2.2.1 X.2.2.2.2.1 (Nat.not_le.mpr X.2.2.2.2.1) w.2.2 (inb_in h156) (dcs_get dec_law_8 22 rfl) ?_
  obtain ⟨v158, σ159, h157, hf⟩ := cC_some hf
  refine a_i1 (k_V (K := kC) (c0 := 0) (As := [.int (xs (i + (1 : Int32)).toNatClampNeg), .int (xs (i + (2 : Int32)).toNatClampNeg)]) (rest := []) cls11 lb_X11_byRule lv_X11_byRule q_831 (C_X11_byRule X.1.2.2.1 0 (xs (i + (1 : Int32)).toNatClampNeg) (xs (i + (2 : Int32)).toNatClampNeg) σ h157 ok11) ⟨Nat.le_of_ble_eq_true rfl, Nat.le_of_ble_eq_true rfl⟩ X.1 ⟨w.1, w.2.2⟩ (okr_in ok11).1 (okr_in ok11).2 rfl rfl hl.1 (Nat.le_of_ble_eq_true rfl) (dcs_get dec_law_8 23 rfl) ⟨Nat.le_of_ble_eq_true rfl, Nat.le_of_ble_eq_true rfl⟩) X w (fun H locs w => ?_)
  refine lv_aload_n X.1.hx X.1.hb (dcs_get dec_law_8 24 rfl) rfl (lv_at hl 2 rfl) ?_
  refine lv_aload_n X.1.hx X.1.hb (dcs_get dec_law_8 25 rfl) rfl (lv_at hl 0 rfl) ?_
  refine lv_iload_n X.1.hx X.1.hb (dcs_get dec_law_8 26 rfl) rfl (lv_at hl 3 rfl) ?_
  refine lv_iconst (v := (1 : Int32)) X.1.hx X.1.hb (dcs_get dec_law_8 27 rfl) (by decide) ?_
  refine lv_iadd X.1.hx X.1.hb (dcs_get dec_law_8 28 rfl) ?_
  obtain ⟨h160, hf⟩ := cG_some hf
  refine va_sld X.1.hx X.1.hb X.2.2.2.1 X.2.2.2.2.1 (Nat.not_le.mpr X.2.2.2.2.1) w.2.2 (inb_in h160) (dcs_get dec_law_8 29 rfl) ?_
  refine lv_aload_n X.1.hx X.1.hb (dcs_get dec_law_8 30 rfl) rfl (lv_at hl 0 rfl) ?_
  refine lv_iload_n X.1.hx X.1.hb (dcs_get dec_law_8 31 rfl) rfl (lv_at hl 3 rfl) ?_
  refine lv_iconst (v := (2 : Int32)) X.1.hx X.1.hb (dcs_get dec_law_8 32 rfl) (by decide) ?_
  refine lv_iadd X.1.hx X.1.hb (dcs_get dec_law_8 33 rfl) ?_
  obtain ⟨h161, hf⟩ := cG_some hf
  refine va_sld X.1.hx X.1.hb X.2.2.2.1 X.2.2.2.2.1 (Nat.not_le.mpr X.2.2.2.2.1) w.2.2 (inb_in h161) (dcs_get dec_law_8 34 rfl) ?_
  obtain ⟨v163, τ164, h162, hf⟩ := cC_some hf
  refine a_i2 (k_V (K := kM) (c0 := 0) (As := [.int (xs (i + (1 : Int32)).toNatClampNeg), .int (xs (i + (2 : Int32)).toNatClampNeg)]) (rest := [.int v158]) cls12 lb_X12_byRule lv_X12_byRule q_1448 (C_X12_byRule X.2.1.2.2.1 0 (xs (i + (1 : Int32)).toNatClampNeg) (xs (i + (2 : Int32)).toNatClampNeg) τ h162 ok12) ⟨Nat.le_of_ble_eq_true rfl, Nat.le_of_ble_eq_true rfl⟩ X.2.1 ⟨w.2.1, w.2.2⟩ (okr_in ok12).1 (okr_in ok12).2 rfl rfl hl.1 (Nat.le_of_ble_eq_true rfl) (dcs_get dec_law_8 35 rfl) ⟨Nat.le_of_ble_eq_true rfl, Nat.le_of_ble_eq_true rfl⟩) X w (fun H locs w => ?_)
  refine lv_icmp_eq (tgt := 1160) X.1.hx X.1.hb (dcs_get dec_law_8 36 rfl) (by decide) (fun hc => ?_) (fun hc => ?_)
  · rw [if_pos hc] at hf
    obtain ⟨v165, e_v165, hf⟩ := cL_some hf
    refine lv_iinc (v := v165) (lv' := [(3, .int v165), (0, .ref b), (1, .ref (ad1 0)), (2, .ref (ad2 0))]) X.1.hx X.1.hb (dcs_get dec_law_20 18 rfl) hl (k := 3) rfl (by rw [e_v165]; rfl) (by decide) rfl (fun ls hl => ?_)
    refine lv_goto (tgt := 18) X.1.hx X.1.hb (dcs_get dec_law_20 19 rfl) (by decide) ?_
    exact hb (v165, σ159, τ164) (Option.some.inj hf).symm _ _ _ w (lv_sub hl [1, 2, 3, 0] rfl)
  · rw [if_neg hc] at hf
    refine lv_iconst (v := (0 : Int32)) X.1.hx X.1.hb (dcs_get dec_law_8 37 rfl) (by decide) ?_
    exact absurd (hr _ (Option.some.inj hf).symm) (by decide)
set_option maxRecDepth 100000 in
set_option maxHeartbeats 8000000 in
theorem B_law_599 {H : Heap} {locs : List Loc} {ls : Array Slot} {o : (Int32 × hSt × hSt) ⊕ Int32} (X : LC p s m meth c D ay ad1 ad2 b L xs) (i : Int32) (σ τ : hSt) (hf : F_law_599 xs L i σ τ = some o) (hb : ∀ (v : Int32 × hSt × hSt), o = .inl v → ∀ (H : Heap) (locs : List Loc) (ls : Array Slot), WL D ay ad1 ad2 s v.2.1 v.2.2 H locs → lv_has ls 4 [(0, .ref b), (1, .ref (ad1 0)), (2, .ref (ad2 0)), (3, .int v.1)] → W p l e room_1 s m #[Value.ref b] below meth c H locs 293 37911 (lw_Z below #[Value.ref b] s) (F0 m 18 ls [])) (hr : ∀ x, o = .inr x → x = 1) (w : WL D ay ad1 ad2 s σ τ H locs) (hl : lv_has ls 4 [(0, .ref b), (1, .ref (ad1 0)), (2, .ref (ad2 0)), (3, .int i)]) : W p l e room_1 s m #[Value.ref b] below meth c H locs 293 37911 (lw_Z below #[Value.ref b] s) (F0 m 599 ls []) := by
  unfold F_law_599 at hf
  refine lv_aload_n X.1.hx X.1.hb (dcs_get dec_law_8 39 rfl) rfl (lv_at hl 1 rfl) ?_
  refine lv_aload_n X.1.hx X.1.hb (dcs_get dec_law_9 0 rfl) rfl (lv_at hl 0 rfl) ?_
  refine lv_iload_n X.1.hx X.1.hb (dcs_get dec_law_9 1 rfl) rfl (lv_at hl 3 rfl) ?_
  refine lv_iconst (v := (1 : Int32)) X.1.hx X.1.hb (dcs_get dec_law_9 2 rfl) (by decide) ?_
  refine lv_iadd X.1.hx X.1.hb (dcs_get dec_law_9 3 rfl) ?_
  obtain ⟨h166, hf⟩ := cG_some hf
  refine va_sld X.1.hx X.1.hb X.2.2.2.1 X.2.2.2.2.1 (Nat.not_le.mpr X.2.2.2.2.1) w.2.2 (inb_in h166) (dcs_get dec_law_9 4 rfl) ?_
  refine lv_aload_n X.1.hx X.1.hb (dcs_get dec_law_9 5 rfl) rfl (lv_at hl 0 rfl) ?_
  refine lv_iload_n X.1.hx X.1.hb (dcs_get dec_law_9 6 rfl) rfl (lv_at hl 3 rfl) ?_
  refine lv_iconst (v := (2 : Int32)) X.1.hx X.1.hb (dcs_get dec_law_9 7 rfl) (by decide) ?_
  refine lv_iadd X.1.hx X.1.hb (dcs_get dec_law_9 8 rfl) ?_
  obtain ⟨h167, hf⟩ := cG_some hf
  refine va_sld X.1.hx X.1.hb X.2.2.2.1 X.2.2.2.2.1 (Nat.not_le.mpr X.2.2.2.2.1) w.2.2 (inb_in h167) (dcs_get dec_law_9 9 rfl) ?_
  refine lv_aload_n X.1.hx X.1.hb (dcs_get dec_law_9 10 rfl) rfl (lv_at hl 0 rfl) ?_
  refine lv_iload_n X.1.hx X.1.hb (dcs_get dec_law_9 11 rfl) rfl (lv_at hl 3 rfl) ?_
  refine lv_iconst (v := (3 : Int32)) X.1.hx X.1.hb (dcs_get dec_law_9 12 rfl) (by decide) ?_
  refine lv_iadd X.1.hx X.1.hb (dcs_get dec_law_9 13 rfl) ?_
  obtain ⟨h168, hf⟩ := cG_some hf
  refine va_sld X.1.hx X.1.hb X.2.2.2.1 X.2.2.2.2.1 (Nat.not_le.mpr X.2.2.2.2.1) w.2.2 (inb_in h168) (dcs_get dec_law_9 14 rfl) ?_
  refine lv_aload_n X.1.hx X.1.hb (dcs_get dec_law_9 15 rfl) rfl (lv_at hl 0 rfl) ?_
  refine lv_iload_n X.1.hx X.1.hb (dcs_get dec_law_9 16 rfl) rfl (lv_at hl 3 rfl) ?_
  refine lv_iconst (v := (4 : Int32)) X.1.hx X.1.hb (dcs_get dec_law_9 17 rfl) (by decide) ?_
  refine lv_iadd X.1.hx X.1.hb (dcs_get dec_law_9 18 rfl) ?_
  obtain ⟨h169, hf⟩ := cG_some hf
  refine va_sld X.1.hx X.1.hb X.2.2.2.1 X.2.2.2.2.1 (Nat.not_le.mpr X.2.2.2.2.1) w.2.2 (inb_in h169) (dcs_get dec_law_9 19 rfl) ?_
  obtain ⟨v171, σ172, h170, hf⟩ := cC_some hf
  refine a_i1 (k_V (K := kC) (c0 := 0) (As := [.int (xs (i + (1 : Int32)).toNatClampNeg), .int (xs (i + (2 : Int32)).toNatClampNeg), .int (xs (i + (3 : Int32)).toNatClampNeg), .int (xs (i + (4 : Int32)).toNatClampNeg)]) (rest := []) cls11 lb_X11_agreed lv_X11_agreed q_840 (C_X11_agreed X.1.2.2.1 0 (xs (i + (1 : Int32)).toNatClampNeg) (xs (i + (2 : Int32)).toNatClampNeg) (xs (i + (3 : Int32)).toNatClampNeg) (xs (i + (4 : Int32)).toNatClampNeg) σ h170 ok11) ⟨Nat.le_of_ble_eq_true rfl, Nat.le_of_ble_eq_true rfl⟩ X.1 ⟨w.1, w.2.2⟩ (okr_in ok11).1 (okr_in ok11).2 rfl rfl hl.1 (Nat.le_of_ble_eq_true rfl) (dcs_get dec_law_9 20 rfl) ⟨Nat.le_of_ble_eq_true rfl, Nat.le_of_ble_eq_true rfl⟩) X w (fun H locs w => ?_)
  refine lv_aload_n X.1.hx X.1.hb (dcs_get dec_law_9 21 rfl) rfl (lv_at hl 2 rfl) ?_
  refine lv_aload_n X.1.hx X.1.hb (dcs_get dec_law_9 22 rfl) rfl (lv_at hl 0 rfl) ?_
  refine lv_iload_n X.1.hx X.1.hb (dcs_get dec_law_9 23 rfl) rfl (lv_at hl 3 rfl) ?_
  refine lv_iconst (v := (1 : Int32)) X.1.hx X.1.hb (dcs_get dec_law_9 24 rfl) (by decide) ?_
  refine lv_iadd X.1.hx X.1.hb (dcs_get dec_law_9 25 rfl) ?_
  obtain ⟨h173, hf⟩ := cG_some hf
  refine va_sld X.1.hx X.1.hb X.2.2.2.1 X.2.2.2.2.1 (Nat.not_le.mpr X.2.2.2.2.1) w.2.2 (inb_in h173) (dcs_get dec_law_9 26 rfl) ?_
  refine lv_aload_n X.1.hx X.1.hb (dcs_get dec_law_9 27 rfl) rfl (lv_at hl 0 rfl) ?_
  refine lv_iload_n X.1.hx X.1.hb (dcs_get dec_law_9 28 rfl) rfl (lv_at hl 3 rfl) ?_
  refine lv_iconst (v := (2 : Int32)) X.1.hx X.1.hb (dcs_get dec_law_9 29 rfl) (by decide) ?_
  refine lv_iadd X.1.hx X.1.hb (dcs_get dec_law_9 30 rfl) ?_
  obtain ⟨h174, hf⟩ := cG_some hf
  refine va_sld X.1.hx X.1.hb X.2.2.2.1 X.2.2.2.2.1 (Nat.not_le.mpr X.2.2.2.2.1) w.2.2 (inb_in h174) (dcs_get dec_law_9 31 rfl) ?_
  refine lv_aload_n X.1.hx X.1.hb (dcs_get dec_law_9 32 rfl) rfl (lv_at hl 0 rfl) ?_
  refine lv_iload_n X.1.hx X.1.hb (dcs_get dec_law_9 33 rfl) rfl (lv_at hl 3 rfl) ?_
  refine lv_iconst (v := (3 : Int32)) X.1.hx X.1.hb (dcs_get dec_law_9 34 rfl) (by decide) ?_
  refine lv_iadd X.1.hx X.1.hb (dcs_get dec_law_9 35 rfl) ?_
  obtain ⟨h175, hf⟩ := cG_some hf
  refine va_sld X.1.hx X.1.hb X.2.2.2.1 X.2.2.2.2.1 (Nat.not_le.mpr X.2.2.2.2.1) w.2.2 (inb_in h175) (dcs_get dec_law_9 36 rfl) ?_
  refine lv_aload_n X.1.hx X.1.hb (dcs_get dec_law_9 37 rfl) rfl (lv_at hl 0 rfl) ?_
  refine lv_iload_n X.1.hx X.1.hb (dcs_get dec_law_9 38 rfl) rfl (lv_at hl 3 rfl) ?_
  refine lv_iconst (v := (4 : Int32)) X.1.hx X.1.hb (dcs_get dec_law_9 39 rfl) (by decide) ?_
  refine lv_iadd X.1.hx X.1.hb (dcs_get dec_law_10 0 rfl) ?_
  obtain ⟨h176, hf⟩ := cG_some hf
  refine va_sld X.1.hx X.1.hb X.2.2.2.1 X.2.2.2.2.1 (Nat.not_le.mpr X.2.2.2.2.1) w.2.2 (inb_in h176) (dcs_get dec_law_10 1 rfl) ?_
  obtain ⟨v178, τ179, h177, hf⟩ := cC_some hf
  refine a_i2 (k_V (K := kM) (c0 := 0) (As := [.int (xs (i + (1 : Int32)).toNatClampNeg), .int (xs (i + (2 : Int32)).toNatClampNeg), .int (xs (i + (3 : Int32)).toNatClampNeg), .int (xs (i + (4 : Int32)).toNatClampNeg)]) (rest := [.int v171]) cls12 lb_X12_agreed lv_X12_agreed q_1456 (C_X12_agreed X.2.1.2.2.1 0 (xs (i + (1 : Int32)).toNatClampNeg) (xs (i + (2 : Int32)).toNatClampNeg) (xs (i + (3 : Int32)).toNatClampNeg) (xs (i + (4 : Int32)).toNatClampNeg) τ h177 ok12) ⟨Nat.le_of_ble_eq_true rfl, Nat.le_of_ble_eq_true rfl⟩ X.2.1 ⟨w.2.1, w.2.2⟩ (okr_in ok12).1 (okr_in ok12).2 rfl rfl hl.1 (Nat.le_of_ble_eq_true rfl) (dcs_get dec_law_10 2 rfl) ⟨Nat.le_of_ble_eq_true rfl, Nat.le_of_ble_eq_true rfl⟩) X w (fun H locs w => ?_)
  refine lv_icmp_eq (tgt := 1160) X.1.hx X.1.hb (dcs_get dec_law_10 3 rfl) (by decide) (fun hc => ?_) (fun hc => ?_)
  · rw [if_pos hc] at hf
    obtain ⟨v180, e_v180, hf⟩ := cL_some hf
    refine lv_iinc (v := v180) (lv' := [(3, .int v180), (0, .ref b), (1, .ref (ad1 0)), (2, .ref (ad2 0))]) X.1.hx X.1.hb (dcs_get dec_law_20 18 rfl) hl (k := 3) rfl (by rw [e_v180]; rfl) (by decide) rfl (fun ls hl => ?_)
    refine lv_goto (tgt := 18) X.1.hx X.1.hb (dcs_get dec_law_20 19 rfl) (by decide) ?_
    exact hb (v180, σ172, τ179) (Option.some.inj hf).symm _ _ _ w (lv_sub hl [1, 2, 3, 0] rfl)
  · rw [if_neg hc] at hf
    refine lv_iconst (v := (0 : Int32)) X.1.hx X.1.hb (dcs_get dec_law_10 4 rfl) (by decide) ?_
    exact absurd (hr _ (Option.some.inj hf).symm) (by decide)
set_option maxRecDepth 100000 in
set_option maxHeartbeats 8000000 in
theorem B_law_652 {H : Heap} {locs : List Loc} {ls : Array Slot} {o : (Int32 × hSt × hSt) ⊕ Int32} (X : LC p s m meth c D ay ad1 ad2 b L xs) (i : Int32) (σ τ : hSt) (hf : F_law_652 xs L i σ τ = some o) (hb : ∀ (v : Int32 × hSt × hSt), o = .inl v → ∀ (H : Heap) (locs : List Loc) (ls : Array Slot), WL D ay ad1 ad2 s v.2.1 v.2.2 H locs → lv_has ls 4 [(0, .ref b), (1, .ref (ad1 0)), (2, .ref (ad2 0)), (3, .int v.1)] → W p l e room_1 s m #[Value.ref b] below meth c H locs 293 37911 (lw_Z below #[Value.ref b] s) (F0 m 18 ls [])) (hr : ∀ x, o = .inr x → x = 1) (w : WL D ay ad1 ad2 s σ τ H locs) (hl : lv_has ls 4 [(0, .ref b), (1, .ref (ad1 0)), (2, .ref (ad2 0)), (3, .int i)]) : W p l e room_1 s m #[Value.ref b] below meth c H locs 293 37911 (lw_Z below #[Value.ref b] s) (F0 m 652 ls []) := by
  unfold F_law_652 at hf
  refine lv_aload_n X.1.hx X.1.hb (dcs_get dec_law_10 6 rfl) rfl (lv_at hl 1 rfl) ?_
  refine lv_aload_n X.1.hx X.1.hb (dcs_get dec_law_10 7 rfl) rfl (lv_at hl 0 rfl) ?_
  refine lv_iload_n X.1.hx X.1.hb (dcs_get dec_law_10 8 rfl) rfl (lv_at hl 3 rfl) ?_
  refine lv_iconst (v := (1 : Int32)) X.1.hx X.1.hb (dcs_get dec_law_10 9 rfl) (by decide) ?_
  refine lv_iadd X.1.hx X.1.hb (dcs_get dec_law_10 10 rfl) ?_
  obtain ⟨h181, hf⟩ := cG_some hf
  refine va_sld X.1.hx X.1.hb X.2.2.2.1 X.2.2.2.2.1 (Nat.not_le.mpr X.2.2.2.2.1) w.2.2 (inb_in h181) (dcs_get dec_law_10 11 rfl) ?_
  obtain ⟨v183, σ184, h182, hf⟩ := cC_some hf
  refine a_i1 (k_V (K := kC) (c0 := 0) (As := [.int (xs (i + (1 : Int32)).toNatClampNeg)]) (rest := []) cls11 lb_X11_talk lv_X11_talk q_844 (C_X11_talk X.1.2.2.1 0 (xs (i + (1 : Int32)).toNatClampNeg) σ h182 ok11) ⟨Nat.le_of_ble_eq_true rfl, Nat.le_of_ble_eq_true rfl⟩ X.1 ⟨w.1, w.2.2⟩ (okr_in ok11).1 (okr_in ok11).2 rfl rfl hl.1 (Nat.le_of_ble_eq_true rfl) (dcs_get dec_law_10 12 rfl) ⟨Nat.le_of_ble_eq_true rfl, Nat.le_of_ble_eq_true rfl⟩) X w (fun H locs w => ?_)
  refine lv_aload_n X.1.hx X.1.hb (dcs_get dec_law_10 13 rfl) rfl (lv_at hl 2 rfl) ?_
  refine lv_aload_n X.1.hx X.1.hb (dcs_get dec_law_10 14 rfl) rfl (lv_at hl 0 rfl) ?_
  refine lv_iload_n X.1.hx X.1.hb (dcs_get dec_law_10 15 rfl) rfl (lv_at hl 3 rfl) ?_
  refine lv_iconst (v := (1 : Int32)) X.1.hx X.1.hb (dcs_get dec_law_10 16 rfl) (by decide) ?_
  refine lv_iadd X.1.hx X.1.hb (dcs_get dec_law_10 17 rfl) ?_
  obtain ⟨h185, hf⟩ := cG_some hf
  refine va_sld X.1.hx X.1.hb X.2.2.2.1 X.2.2.2.2.1 (Nat.not_le.mpr X.2.2.2.2.1) w.2.2 (inb_in h185) (dcs_get dec_law_10 18 rfl) ?_
  obtain ⟨v187, τ188, h186, hf⟩ := cC_some hf
  refine a_i2 (k_V (K := kM) (c0 := 0) (As := [.int (xs (i + (1 : Int32)).toNatClampNeg)]) (rest := [.int v183]) cls12 lb_X12_talk lv_X12_talk q_1460 (C_X12_talk X.2.1.2.2.1 0 (xs (i + (1 : Int32)).toNatClampNeg) τ h186 ok12) ⟨Nat.le_of_ble_eq_true rfl, Nat.le_of_ble_eq_true rfl⟩ X.2.1 ⟨w.2.1, w.2.2⟩ (okr_in ok12).1 (okr_in ok12).2 rfl rfl hl.1 (Nat.le_of_ble_eq_true rfl) (dcs_get dec_law_10 19 rfl) ⟨Nat.le_of_ble_eq_true rfl, Nat.le_of_ble_eq_true rfl⟩) X w (fun H locs w => ?_)
  refine lv_icmp_eq (tgt := 1160) X.1.hx X.1.hb (dcs_get dec_law_10 20 rfl) (by decide) (fun hc => ?_) (fun hc => ?_)
  · rw [if_pos hc] at hf
    obtain ⟨v189, e_v189, hf⟩ := cL_some hf
    refine lv_iinc (v := v189) (lv' := [(3, .int v189), (0, .ref b), (1, .ref (ad1 0)), (2, .ref (ad2 0))]) X.1.hx X.1.hb (dcs_get dec_law_20 18 rfl) hl (k := 3) rfl (by rw [e_v189]; rfl) (by decide) rfl (fun ls hl => ?_)
    refine lv_goto (tgt := 18) X.1.hx X.1.hb (dcs_get dec_law_20 19 rfl) (by decide) ?_
    exact hb (v189, σ184, τ188) (Option.some.inj hf).symm _ _ _ w (lv_sub hl [1, 2, 3, 0] rfl)
  · rw [if_neg hc] at hf
    refine lv_iconst (v := (0 : Int32)) X.1.hx X.1.hb (dcs_get dec_law_10 21 rfl) (by decide) ?_
    exact absurd (hr _ (Option.some.inj hf).symm) (by decide)
set_option maxRecDepth 100000 in
set_option maxHeartbeats 8000000 in
theorem B_law_675 {H : Heap} {locs : List Loc} {ls : Array Slot} {o : (Int32 × hSt × hSt) ⊕ Int32} (X : LC p s m meth c D ay ad1 ad2 b L xs) (i : Int32) (σ τ : hSt) (hf : F_law_675 xs L i σ τ = some o) (hb : ∀ (v : Int32 × hSt × hSt), o = .inl v → ∀ (H : Heap) (locs : List Loc) (ls : Array Slot), WL D ay ad1 ad2 s v.2.1 v.2.2 H locs → lv_has ls 4 [(0, .ref b), (1, .ref (ad1 0)), (2, .ref (ad2 0)), (3, .int v.1)] → W p l e room_1 s m #[Value.ref b] below meth c H locs 293 37911 (lw_Z below #[Value.ref b] s) (F0 m 18 ls [])) (hr : ∀ x, o = .inr x → x = 1) (w : WL D ay ad1 ad2 s σ τ H locs) (hl : lv_has ls 4 [(0, .ref b), (1, .ref (ad1 0)), (2, .ref (ad2 0)), (3, .int i)]) : W p l e room_1 s m #[Value.ref b] below meth c H locs 293 37911 (lw_Z below #[Value.ref b] s) (F0 m 675 ls []) := by
  unfold F_law_675 at hf
  refine lv_aload_n X.1.hx X.1.hb (dcs_get dec_law_10 23 rfl) rfl (lv_at hl 1 rfl) ?_
  refine lv_aload_n X.1.hx X.1.hb (dcs_get dec_law_10 24 rfl) rfl (lv_at hl 0 rfl) ?_
  refine lv_iload_n X.1.hx X.1.hb (dcs_get dec_law_10 25 rfl) rfl (lv_at hl 3 rfl) ?_
  refine lv_iconst (v := (1 : Int32)) X.1.hx X.1.hb (dcs_get dec_law_10 26 rfl) (by decide) ?_
  refine lv_iadd X.1.hx X.1.hb (dcs_get dec_law_10 27 rfl) ?_
  obtain ⟨h190, hf⟩ := cG_some hf
  refine va_sld X.1.hx X.1.hb X.2.2.2.1 X.2.2.2.2.1 (Nat.not_le.mpr X.2.2.2.2.1) w.2.2 (inb_in h190) (dcs_get dec_law_10 28 rfl) ?_
  refine lv_aload_n X.1.hx X.1.hb (dcs_get dec_law_10 29 rfl) rfl (lv_at hl 0 rfl) ?_
  refine lv_iload_n X.1.hx X.1.hb (dcs_get dec_law_10 30 rfl) rfl (lv_at hl 3 rfl) ?_
  refine lv_iconst (v := (2 : Int32)) X.1.hx X.1.hb (dcs_get dec_law_10 31 rfl) (by decide) ?_
  refine lv_iadd X.1.hx X.1.hb (dcs_get dec_law_10 32 rfl) ?_
  obtain ⟨h191, hf⟩ := cG_some hf
  refine va_sld X.1.hx X.1.hb X.2.2.2.1 X.2.2.2.2.1 (Nat.not_le.mpr X.2.2.2.2.1) w.2.2 (inb_in h191) (dcs_get dec_law_10 33 rfl) ?_
  obtain ⟨v193, σ194, h192, hf⟩ := cC_some hf
  refine a_i1 (k_V (K := kC) (c0 := 0) (As := [.int (xs (i + (1 : Int32)).toNatClampNeg), .int (xs (i + (2 : Int32)).toNatClampNeg)]) (rest := []) cls11 lb_X11_bestOrder lv_X11_bestOrder q_848 (C_X11_bestOrder X.1.2.2.1 0 (xs (i + (1 : Int32)).toNatClampNeg) (xs (i + (2 : Int32)).toNatClampNeg) σ h192 ok11) ⟨Nat.le_of_ble_eq_true rfl, Nat.le_of_ble_eq_true rfl⟩ X.1 ⟨w.1, w.2.2⟩ (okr_in ok11).1 (okr_in ok11).2 rfl rfl hl.1 (Nat.le_of_ble_eq_true rfl) (dcs_get dec_law_10 34 rfl) ⟨Nat.le_of_ble_eq_true rfl, Nat.le_of_ble_eq_true rfl⟩) X w (fun H locs w => ?_)
  refine lv_aload_n X.1.hx X.1.hb (dcs_get dec_law_10 35 rfl) rfl (lv_at hl 2 rfl) ?_
  refine lv_aload_n X.1.hx X.1.hb (dcs_get dec_law_10 36 rfl) rfl (lv_at hl 0 rfl) ?_
  refine lv_iload_n X.1.hx X.1.hb (dcs_get dec_law_10 37 rfl) rfl (lv_at hl 3 rfl) ?_
  refine lv_iconst (v := (1 : Int32)) X.1.hx X.1.hb (dcs_get dec_law_10 38 rfl) (by decide) ?_
  refine lv_iadd X.1.hx X.1.hb (dcs_get dec_law_10 39 rfl) ?_
  obtain ⟨h195, hf⟩ := cG_some hf
  refine va_sld X.1.hx X.1.hb X.2.2.2.1 X.2.2.2.2.1 (Nat.not_le.mpr X.2.2.2.2.1) w.2.2 (inb_in h195) (dcs_get dec_law_11 0 rfl) ?_
  refine lv_aload_n X.1.hx X.1.hb (dcs_get dec_law_11 1 rfl) rfl (lv_at hl 0 rfl) ?_
  refine lv_iload_n X.1.hx X.1.hb (dcs_get dec_law_11 2 rfl) rfl (lv_at hl 3 rfl) ?_
  refine lv_iconst (v := (2 : Int32)) X.1.hx X.1.hb (dcs_get dec_law_11 3 rfl) (by decide) ?_
  refine lv_iadd X.1.hx X.1.hb (dcs_get dec_law_11 4 rfl) ?_
  obtain ⟨h196, hf⟩ := cG_some hf
  refine va_sld X.1.hx X.1.hb X.2.2.2.1 X.2.2.2.2.1 (Nat.not_le.mpr X.2.2.2.2.1) w.2.2 (inb_in h196) (dcs_get dec_law_11 5 rfl) ?_
  obtain ⟨v198, τ199, h197, hf⟩ := cC_some hf
  refine a_i2 (k_V (K := kM) (c0 := 0) (As := [.int (xs (i + (1 : Int32)).toNatClampNeg), .int (xs (i + (2 : Int32)).toNatClampNeg)]) (rest := [.int v193]) cls12 lb_X12_bestOrder lv_X12_bestOrder q_1464 (C_X12_bestOrder X.2.1.2.2.1 0 (xs (i + (1 : Int32)).toNatClampNeg) (xs (i + (2 : Int32)).toNatClampNeg) τ h197 ok12) ⟨Nat.le_of_ble_eq_true rfl, Nat.le_of_ble_eq_true rfl⟩ X.2.1 ⟨w.2.1, w.2.2⟩ (okr_in ok12).1 (okr_in ok12).2 rfl rfl hl.1 (Nat.le_of_ble_eq_true rfl) (dcs_get dec_law_11 6 rfl) ⟨Nat.le_of_ble_eq_true rfl, Nat.le_of_ble_eq_true rfl⟩) X w (fun H locs w => ?_)
  refine lv_icmp_eq (tgt := 1160) X.1.hx X.1.hb (dcs_get dec_law_11 7 rfl) (by decide) (fun hc => ?_) (fun hc => ?_)
  · rw [if_pos hc] at hf
    obtain ⟨v200, e_v200, hf⟩ := cL_some hf
    refine lv_iinc (v := v200) (lv' := [(3, .int v200), (0, .ref b), (1, .ref (ad1 0)), (2, .ref (ad2 0))]) X.1.hx X.1.hb (dcs_get dec_law_20 18 rfl) hl (k := 3) rfl (by rw [e_v200]; rfl) (by decide) rfl (fun ls hl => ?_)
    refine lv_goto (tgt := 18) X.1.hx X.1.hb (dcs_get dec_law_20 19 rfl) (by decide) ?_
    exact hb (v200, σ194, τ199) (Option.some.inj hf).symm _ _ _ w (lv_sub hl [1, 2, 3, 0] rfl)
  · rw [if_neg hc] at hf
    refine lv_iconst (v := (0 : Int32)) X.1.hx X.1.hb (dcs_get dec_law_11 8 rfl) (by decide) ?_
    exact absurd (hr _ (Option.some.inj hf).symm) (by decide)
set_option maxRecDepth 100000 in
set_option maxHeartbeats 8000000 in
theorem B_law_708 {H : Heap} {locs : List Loc} {ls : Array Slot} {o : (Int32 × hSt × hSt) ⊕ Int32} (X : LC p s m meth c D ay ad1 ad2 b L xs) (i : Int32) (σ τ : hSt) (hf : F_law_708 xs L i σ τ = some o) (hb : ∀ (v : Int32 × hSt × hSt), o = .inl v → ∀ (H : Heap) (locs : List Loc) (ls : Array Slot), WL D ay ad1 ad2 s v.2.1 v.2.2 H locs → lv_has ls 4 [(0, .ref b), (1, .ref (ad1 0)), (2, .ref (ad2 0)), (3, .int v.1)] → W p l e room_1 s m #[Value.ref b] below meth c H locs 293 37911 (lw_Z below #[Value.ref b] s) (F0 m 18 ls [])) (hr : ∀ x, o = .inr x → x = 1) (w : WL D ay ad1 ad2 s σ τ H locs) (hl : lv_has ls 4 [(0, .ref b), (1, .ref (ad1 0)), (2, .ref (ad2 0)), (3, .int i)]) : W p l e room_1 s m #[Value.ref b] below meth c H locs 293 37911 (lw_Z below #[Value.ref b] s) (F0 m 708 ls []) := by
  unfold F_law_708 at hf
  refine lv_aload_n X.1.hx X.1.hb (dcs_get dec_law_11 10 rfl) rfl (lv_at hl 1 rfl) ?_
  refine lv_aload_n X.1.hx X.1.hb (dcs_get dec_law_11 11 rfl) rfl (lv_at hl 0 rfl) ?_
  refine lv_iload_n X.1.hx X.1.hb (dcs_get dec_law_11 12 rfl) rfl (lv_at hl 3 rfl) ?_
  refine lv_iconst (v := (1 : Int32)) X.1.hx X.1.hb (dcs_get dec_law_11 13 rfl) (by decide) ?_
  refine lv_iadd X.1.hx X.1.hb (dcs_get dec_law_11 14 rfl) ?_
  obtain ⟨h201, hf⟩ := cG_some hf
  refine va_sld X.1.hx X.1.hb X.2.2.2.1 X.2.2.2.2.1 (Nat.not_le.mpr X.2.2.2.2.1) w.2.2 (inb_in h201) (dcs_get dec_law_11 15 rfl) ?_
  refine lv_aload_n X.1.hx X.1.hb (dcs_get dec_law_11 16 rfl) rfl (lv_at hl 0 rfl) ?_
  refine lv_iload_n X.1.hx X.1.hb (dcs_get dec_law_11 17 rfl) rfl (lv_at hl 3 rfl) ?_
  refine lv_iconst (v := (2 : Int32)) X.1.hx X.1.hb (dcs_get dec_law_11 18 rfl) (by decide) ?_
  refine lv_iadd X.1.hx X.1.hb (dcs_get dec_law_11 19 rfl) ?_
  obtain ⟨h202, hf⟩ := cG_some hf
  refine va_sld X.1.hx X.1.hb X.2.2.2.1 X.2.2.2.2.1 (Nat.not_le.mpr X.2.2.2.2.1) w.2.2 (inb_in h202) (dcs_get dec_law_11 20 rfl) ?_
  refine lv_aload_n X.1.hx X.1.hb (dcs_get dec_law_11 21 rfl) rfl (lv_at hl 0 rfl) ?_
  refine lv_iload_n X.1.hx X.1.hb (dcs_get dec_law_11 22 rfl) rfl (lv_at hl 3 rfl) ?_
  refine lv_iconst (v := (3 : Int32)) X.1.hx X.1.hb (dcs_get dec_law_11 23 rfl) (by decide) ?_
  refine lv_iadd X.1.hx X.1.hb (dcs_get dec_law_11 24 rfl) ?_
  obtain ⟨h203, hf⟩ := cG_some hf
  refine va_sld X.1.hx X.1.hb X.2.2.2.1 X.2.2.2.2.1 (Nat.not_le.mpr X.2.2.2.2.1) w.2.2 (inb_in h203) (dcs_get dec_law_11 25 rfl) ?_
  obtain ⟨v205, σ206, h204, hf⟩ := cC_some hf
  refine a_i1 (k_V (K := kC) (c0 := 0) (As := [.int (xs (i + (1 : Int32)).toNatClampNeg), .int (xs (i + (2 : Int32)).toNatClampNeg), .int (xs (i + (3 : Int32)).toNatClampNeg)]) (rest := []) cls11 lb_X11_quiet lv_X11_quiet q_859 (C_X11_quiet X.1.2.2.1 0 (xs (i + (1 : Int32)).toNatClampNeg) (xs (i + (2 : Int32)).toNatClampNeg) (xs (i + (3 : Int32)).toNatClampNeg) σ h204 ok11) ⟨Nat.le_of_ble_eq_true rfl, Nat.le_of_ble_eq_true rfl⟩ X.1 ⟨w.1, w.2.2⟩ (okr_in ok11).1 (okr_in ok11).2 rfl rfl hl.1 (Nat.le_of_ble_eq_true rfl) (dcs_get dec_law_11 26 rfl) ⟨Nat.le_of_ble_eq_true rfl, Nat.le_of_ble_eq_true rfl⟩) X w (fun H locs w => ?_)
  refine lv_aload_n X.1.hx X.1.hb (dcs_get dec_law_11 27 rfl) rfl (lv_at hl 2 rfl) ?_
  refine lv_aload_n X.1.hx X.1.hb (dcs_get dec_law_11 28 rfl) rfl (lv_at hl 0 rfl) ?_
  refine lv_iload_n X.1.hx X.1.hb (dcs_get dec_law_11 29 rfl) rfl (lv_at hl 3 rfl) ?_
  refine lv_iconst (v := (1 : Int32)) X.1.hx X.1.hb (dcs_get dec_law_11 30 rfl) (by decide) ?_
  refine lv_iadd X.1.hx X.1.hb (dcs_get dec_law_11 31 rfl) ?_
  obtain ⟨h207, hf⟩ := cG_some hf
  refine va_sld X.1.hx X.1.hb X.2.2.2.1 X.2.2.2.2.1 (Nat.not_le.mpr X.2.2.2.2.1) w.2.2 (inb_in h207) (dcs_get dec_law_11 32 rfl) ?_
  refine lv_aload_n X.1.hx X.1.hb (dcs_get dec_law_11 33 rfl) rfl (lv_at hl 0 rfl) ?_
  refine lv_iload_n X.1.hx X.1.hb (dcs_get dec_law_11 34 rfl) rfl (lv_at hl 3 rfl) ?_
  refine lv_iconst (v := (2 : Int32)) X.1.hx X.1.hb (dcs_get dec_law_11 35 rfl) (by decide) ?_
  refine lv_iadd X.1.hx X.1.hb (dcs_get dec_law_11 36 rfl) ?_
  obtain ⟨h208, hf⟩ := cG_some hf
  refine va_sld X.1.hx X.1.hb X.2.2.2.1 X.2.2.2.2.1 (Nat.not_le.mpr X.2.2.2.2.1) w.2.2 (inb_in h208) (dcs_get dec_law_11 37 rfl) ?_
  refine lv_aload_n X.1.hx X.1.hb (dcs_get dec_law_11 38 rfl) rfl (lv_at hl 0 rfl) ?_
  refine lv_iload_n X.1.hx X.1.hb (dcs_get dec_law_11 39 rfl) rfl (lv_at hl 3 rfl) ?_
  refine lv_iconst (v := (3 : Int32)) X.1.hx X.1.hb (dcs_get dec_law_12 0 rfl) (by decide) ?_
  refine lv_iadd X.1.hx X.1.hb (dcs_get dec_law_12 1 rfl) ?_
  obtain ⟨h209, hf⟩ := cG_some hf
  refine va_sld X.1.hx X.1.hb X.2.2.2.1 X.2.2.2.2.1 (Nat.not_le.mpr X.2.2.2.2.1) w.2.2 (inb_in h209) (dcs_get dec_law_12 2 rfl) ?_
  obtain ⟨v211, τ212, h210, hf⟩ := cC_some hf
  refine a_i2 (k_V (K := kM) (c0 := 0) (As := [.int (xs (i + (1 : Int32)).toNatClampNeg), .int (xs (i + (2 : Int32)).toNatClampNeg), .int (xs (i + (3 : Int32)).toNatClampNeg)]) (rest := [.int v205]) cls12 lb_X12_quiet lv_X12_quiet q_1472 (C_X12_quiet X.2.1.2.2.1 0 (xs (i + (1 : Int32)).toNatClampNeg) (xs (i + (2 : Int32)).toNatClampNeg) (xs (i + (3 : Int32)).toNatClampNeg) τ h210 ok12) ⟨Nat.le_of_ble_eq_true rfl, Nat.le_of_ble_eq_true rfl⟩ X.2.1 ⟨w.2.1, w.2.2⟩ (okr_in ok12).1 (okr_in ok12).2 rfl rfl hl.1 (Nat.le_of_ble_eq_true rfl) (dcs_get dec_law_12 3 rfl) ⟨Nat.le_of_ble_eq_true rfl, Nat.le_of_ble_eq_true rfl⟩) X w (fun H locs w => ?_)
  refine lv_icmp_eq (tgt := 1160) X.1.hx X.1.hb (dcs_get dec_law_12 4 rfl) (by decide) (fun hc => ?_) (fun hc => ?_)
  · rw [if_pos hc] at hf
    obtain ⟨v213, e_v213, hf⟩ := cL_some hf
    refine lv_iinc (v := v213) (lv' := [(3, .int v213), (0, .ref b), (1, .ref (ad1 0)), (2, .ref (ad2 0))]) X.1.hx X.1.hb (dcs_get dec_law_20 18 rfl) hl (k := 3) rfl (by rw [e_v213]; rfl) (by decide) rfl (fun ls hl => ?_)
    refine lv_goto (tgt := 18) X.1.hx X.1.hb (dcs_get dec_law_20 19 rfl) (by decide) ?_
    exact hb (v213, σ206, τ212) (Option.some.inj hf).symm _ _ _ w (lv_sub hl [1, 2, 3, 0] rfl)
  · rw [if_neg hc] at hf
    refine lv_iconst (v := (0 : Int32)) X.1.hx X.1.hb (dcs_get dec_law_12 5 rfl) (by decide) ?_
    exact absurd (hr _ (Option.some.inj hf).symm) (by decide)
set_option maxRecDepth 100000 in
set_option maxHeartbeats 8000000 in
theorem B_law_751 {H : Heap} {locs : List Loc} {ls : Array Slot} {o : (Int32 × hSt × hSt) ⊕ Int32} (X : LC p s m meth c D ay ad1 ad2 b L xs) (i : Int32) (σ τ : hSt) (hf : F_law_751 xs L i σ τ = some o) (hb : ∀ (v : Int32 × hSt × hSt), o = .inl v → ∀ (H : Heap) (locs : List Loc) (ls : Array Slot), WL D ay ad1 ad2 s v.2.1 v.2.2 H locs → lv_has ls 4 [(0, .ref b), (1, .ref (ad1 0)), (2, .ref (ad2 0)), (3, .int v.1)] → W p l e room_1 s m #[Value.ref b] below meth c H locs 293 37911 (lw_Z below #[Value.ref b] s) (F0 m 18 ls [])) (hr : ∀ x, o = .inr x → x = 1) (w : WL D ay ad1 ad2 s σ τ H locs) (hl : lv_has ls 4 [(0, .ref b), (1, .ref (ad1 0)), (2, .ref (ad2 0)), (3, .int i)]) : W p l e room_1 s m #[Value.ref b] below meth c H locs 293 37911 (lw_Z below #[Value.ref b] s) (F0 m 751 ls []) := by
  unfold F_law_751 at hf
  refine lv_aload_n X.1.hx X.1.hb (dcs_get dec_law_12 7 rfl) rfl (lv_at hl 1 rfl) ?_
  refine lv_aload_n X.1.hx X.1.hb (dcs_get dec_law_12 8 rfl) rfl (lv_at hl 0 rfl) ?_
  refine lv_iload_n X.1.hx X.1.hb (dcs_get dec_law_12 9 rfl) rfl (lv_at hl 3 rfl) ?_
  refine lv_iconst (v := (1 : Int32)) X.1.hx X.1.hb (dcs_get dec_law_12 10 rfl) (by decide) ?_
  refine lv_iadd X.1.hx X.1.hb (dcs_get dec_law_12 11 rfl) ?_
  obtain ⟨h214, hf⟩ := cG_some hf
  refine va_sld X.1.hx X.1.hb X.2.2.2.1 X.2.2.2.2.1 (Nat.not_le.mpr X.2.2.2.2.1) w.2.2 (inb_in h214) (dcs_get dec_law_12 12 rfl) ?_
  refine lv_aload_n X.1.hx X.1.hb (dcs_get dec_law_12 13 rfl) rfl (lv_at hl 0 rfl) ?_
  refine lv_iload_n X.1.hx X.1.hb (dcs_get dec_law_12 14 rfl) rfl (lv_at hl 3 rfl) ?_
  refine lv_iconst (v := (2 : Int32)) X.1.hx X.1.hb (dcs_get dec_law_12 15 rfl) (by decide) ?_
  refine lv_iadd X.1.hx X.1.hb (dcs_get dec_law_12 16 rfl) ?_
  obtain ⟨h215, hf⟩ := cG_some hf
  refine va_sld X.1.hx X.1.hb X.2.2.2.1 X.2.2.2.2.1 (Nat.not_le.mpr X.2.2.2.2.1) w.2.2 (inb_in h215) (dcs_get dec_law_12 17 rfl) ?_
  obtain ⟨v217, σ218, h216, hf⟩ := cC_some hf
  refine a_i1 (k_V (K := kC) (c0 := 0) (As := [.int (xs (i + (1 : Int32)).toNatClampNeg), .int (xs (i + (2 : Int32)).toNatClampNeg)]) (rest := []) cls11 lb_X11_soonest lv_X11_soonest q_863 (C_X11_soonest X.1.2.2.1 0 (xs (i + (1 : Int32)).toNatClampNeg) (xs (i + (2 : Int32)).toNatClampNeg) σ h216 ok11) ⟨Nat.le_of_ble_eq_true rfl, Nat.le_of_ble_eq_true rfl⟩ X.1 ⟨w.1, w.2.2⟩ (okr_in ok11).1 (okr_in ok11).2 rfl rfl hl.1 (Nat.le_of_ble_eq_true rfl) (dcs_get dec_law_12 18 rfl) ⟨Nat.le_of_ble_eq_true rfl, Nat.le_of_ble_eq_true rfl⟩) X w (fun H locs w => ?_)
  refine lv_aload_n X.1.hx X.1.hb (dcs_get dec_law_12 19 rfl) rfl (lv_at hl 2 rfl) ?_
  refine lv_aload_n X.1.hx X.1.hb (dcs_get dec_law_12 20 rfl) rfl (lv_at hl 0 rfl) ?_
  refine lv_iload_n X.1.hx X.1.hb (dcs_get dec_law_12 21 rfl) rfl (lv_at hl 3 rfl) ?_
  refine lv_iconst (v := (1 : Int32)) X.1.hx X.1.hb (dcs_get dec_law_12 22 rfl) (by decide) ?_
  refine lv_iadd X.1.hx X.1.hb (dcs_get dec_law_12 23 rfl) ?_
  obtain ⟨h219, hf⟩ := cG_some hf
  refine va_sld X.1.hx X.1.hb X.2.2.2.1 X.2.2.2.2.1 (Nat.not_le.mpr X.2.2.2.2.1) w.2.2 (inb_in h219) (dcs_get dec_law_12 24 rfl) ?_
  refine lv_aload_n X.1.hx X.1.hb (dcs_get dec_law_12 25 rfl) rfl (lv_at hl 0 rfl) ?_
  refine lv_iload_n X.1.hx X.1.hb (dcs_get dec_law_12 26 rfl) rfl (lv_at hl 3 rfl) ?_
  refine lv_iconst (v := (2 : Int32)) X.1.hx X.1.hb (dcs_get dec_law_12 27 rfl) (by decide) ?_
  refine lv_iadd X.1.hx X.1.hb (dcs_get dec_law_12 28 rfl) ?_
  obtain ⟨h220, hf⟩ := cG_some hf
  refine va_sld X.1.hx X.1.hb X.2.2.2.1 X.2.2.2.2.1 (Nat.not_le.mpr X.2.2.2.2.1) w.2.2 (inb_in h220) (dcs_get dec_law_12 29 rfl) ?_
  obtain ⟨v222, τ223, h221, hf⟩ := cC_some hf
  refine a_i2 (k_V (K := kM) (c0 := 0) (As := [.int (xs (i + (1 : Int32)).toNatClampNeg), .int (xs (i + (2 : Int32)).toNatClampNeg)]) (rest := [.int v217]) cls12 lb_X12_soonest lv_X12_soonest q_1476 (C_X12_soonest X.2.1.2.2.1 0 (xs (i + (1 : Int32)).toNatClampNeg) (xs (i + (2 : Int32)).toNatClampNeg) τ h221 ok12) ⟨Nat.le_of_ble_eq_true rfl, Nat.le_of_ble_eq_true rfl⟩ X.2.1 ⟨w.2.1, w.2.2⟩ (okr_in ok12).1 (okr_in ok12).2 rfl rfl hl.1 (Nat.le_of_ble_eq_true rfl) (dcs_get dec_law_12 30 rfl) ⟨Nat.le_of_ble_eq_true rfl, Nat.le_of_ble_eq_true rfl⟩) X w (fun H locs w => ?_)
  refine lv_icmp_eq (tgt := 1160) X.1.hx X.1.hb (dcs_get dec_law_12 31 rfl) (by decide) (fun hc => ?_) (fun hc => ?_)
  · rw [if_pos hc] at hf
    obtain ⟨v224, e_v224, hf⟩ := cL_some hf
    refine lv_iinc (v := v224) (lv' := [(3, .int v224), (0, .ref b), (1, .ref (ad1 0)), (2, .ref (ad2 0))]) X.1.hx X.1.hb (dcs_get dec_law_20 18 rfl) hl (k := 3) rfl (by rw [e_v224]; rfl) (by decide) rfl (fun ls hl => ?_)
    refine lv_goto (tgt := 18) X.1.hx X.1.hb (dcs_get dec_law_20 19 rfl) (by decide) ?_
    exact hb (v224, σ218, τ223) (Option.some.inj hf).symm _ _ _ w (lv_sub hl [1, 2, 3, 0] rfl)
  · rw [if_neg hc] at hf
    refine lv_iconst (v := (0 : Int32)) X.1.hx X.1.hb (dcs_get dec_law_12 32 rfl) (by decide) ?_
    exact absurd (hr _ (Option.some.inj hf).symm) (by decide)
set_option maxRecDepth 100000 in
set_option maxHeartbeats 8000000 in
theorem B_law_784 {H : Heap} {locs : List Loc} {ls : Array Slot} {o : (Int32 × hSt × hSt) ⊕ Int32} (X : LC p s m meth c D ay ad1 ad2 b L xs) (i : Int32) (σ τ : hSt) (hf : F_law_784 xs L i σ τ = some o) (hb : ∀ (v : Int32 × hSt × hSt), o = .inl v → ∀ (H : Heap) (locs : List Loc) (ls : Array Slot), WL D ay ad1 ad2 s v.2.1 v.2.2 H locs → lv_has ls 4 [(0, .ref b), (1, .ref (ad1 0)), (2, .ref (ad2 0)), (3, .int v.1)] → W p l e room_1 s m #[Value.ref b] below meth c H locs 293 37911 (lw_Z below #[Value.ref b] s) (F0 m 18 ls [])) (hr : ∀ x, o = .inr x → x = 1) (w : WL D ay ad1 ad2 s σ τ H locs) (hl : lv_has ls 4 [(0, .ref b), (1, .ref (ad1 0)), (2, .ref (ad2 0)), (3, .int i)]) : W p l e room_1 s m #[Value.ref b] below meth c H locs 293 37911 (lw_Z below #[Value.ref b] s) (F0 m 784 ls []) := by
  unfold F_law_784 at hf
  refine lv_aload_n X.1.hx X.1.hb (dcs_get dec_law_12 34 rfl) rfl (lv_at hl 1 rfl) ?_
  refine lv_aload_n X.1.hx X.1.hb (dcs_get dec_law_12 35 rfl) rfl (lv_at hl 0 rfl) ?_
  refine lv_iload_n X.1.hx X.1.hb (dcs_get dec_law_12 36 rfl) rfl (lv_at hl 3 rfl) ?_
  refine lv_iconst (v := (1 : Int32)) X.1.hx X.1.hb (dcs_get dec_law_12 37 rfl) (by decide) ?_
  refine lv_iadd X.1.hx X.1.hb (dcs_get dec_law_12 38 rfl) ?_
  obtain ⟨h225, hf⟩ := cG_some hf
  refine va_sld X.1.hx X.1.hb X.2.2.2.1 X.2.2.2.2.1 (Nat.not_le.mpr X.2.2.2.2.1) w.2.2 (inb_in h225) (dcs_get dec_law_12 39 rfl) ?_
  obtain ⟨v227, σ228, h226, hf⟩ := cC_some hf
  refine a_i1 (k_V (K := kC) (c0 := 0) (As := [.int (xs (i + (1 : Int32)).toNatClampNeg)]) (rest := []) cls11 lb_X11_all lv_X11_all q_890 (C_X11_all X.1.2.2.1 0 (xs (i + (1 : Int32)).toNatClampNeg) σ h226 ok11) ⟨Nat.le_of_ble_eq_true rfl, Nat.le_of_ble_eq_true rfl⟩ X.1 ⟨w.1, w.2.2⟩ (okr_in ok11).1 (okr_in ok11).2 rfl rfl hl.1 (Nat.le_of_ble_eq_true rfl) (dcs_get dec_law_13 0 rfl) ⟨Nat.le_of_ble_eq_true rfl, Nat.le_of_ble_eq_true rfl⟩) X w (fun H locs w => ?_)
  refine lv_aload_n X.1.hx X.1.hb (dcs_get dec_law_13 1 rfl) rfl (lv_at hl 2 rfl) ?_
  refine lv_aload_n X.1.hx X.1.hb (dcs_get dec_law_13 2 rfl) rfl (lv_at hl 0 rfl) ?_
  refine lv_iload_n X.1.hx X.1.hb (dcs_get dec_law_13 3 rfl) rfl (lv_at hl 3 rfl) ?_
  refine lv_iconst (v := (1 : Int32)) X.1.hx X.1.hb (dcs_get dec_law_13 4 rfl) (by decide) ?_
  refine lv_iadd X.1.hx X.1.hb (dcs_get dec_law_13 5 rfl) ?_
  obtain ⟨h229, hf⟩ := cG_some hf
  refine va_sld X.1.hx X.1.hb X.2.2.2.1 X.2.2.2.2.1 (Nat.not_le.mpr X.2.2.2.2.1) w.2.2 (inb_in h229) (dcs_get dec_law_13 6 rfl) ?_
  obtain ⟨v231, τ232, h230, hf⟩ := cC_some hf
  refine a_i2 (k_V (K := kM) (c0 := 0) (As := [.int (xs (i + (1 : Int32)).toNatClampNeg)]) (rest := [.int v227]) cls12 lb_X12_all lv_X12_all q_1507 (C_X12_all X.2.1.2.2.1 0 (xs (i + (1 : Int32)).toNatClampNeg) τ h230 ok12) ⟨Nat.le_of_ble_eq_true rfl, Nat.le_of_ble_eq_true rfl⟩ X.2.1 ⟨w.2.1, w.2.2⟩ (okr_in ok12).1 (okr_in ok12).2 rfl rfl hl.1 (Nat.le_of_ble_eq_true rfl) (dcs_get dec_law_13 7 rfl) ⟨Nat.le_of_ble_eq_true rfl, Nat.le_of_ble_eq_true rfl⟩) X w (fun H locs w => ?_)
  refine lv_icmp_eq (tgt := 1160) X.1.hx X.1.hb (dcs_get dec_law_13 8 rfl) (by decide) (fun hc => ?_) (fun hc => ?_)
  · rw [if_pos hc] at hf
    obtain ⟨v233, e_v233, hf⟩ := cL_some hf
    refine lv_iinc (v := v233) (lv' := [(3, .int v233), (0, .ref b), (1, .ref (ad1 0)), (2, .ref (ad2 0))]) X.1.hx X.1.hb (dcs_get dec_law_20 18 rfl) hl (k := 3) rfl (by rw [e_v233]; rfl) (by decide) rfl (fun ls hl => ?_)
    refine lv_goto (tgt := 18) X.1.hx X.1.hb (dcs_get dec_law_20 19 rfl) (by decide) ?_
    exact hb (v233, σ228, τ232) (Option.some.inj hf).symm _ _ _ w (lv_sub hl [1, 2, 3, 0] rfl)
  · rw [if_neg hc] at hf
    refine lv_iconst (v := (0 : Int32)) X.1.hx X.1.hb (dcs_get dec_law_13 9 rfl) (by decide) ?_
    exact absurd (hr _ (Option.some.inj hf).symm) (by decide)
set_option maxRecDepth 100000 in
set_option maxHeartbeats 8000000 in
theorem B_law_807 {H : Heap} {locs : List Loc} {ls : Array Slot} {o : (Int32 × hSt × hSt) ⊕ Int32} (X : LC p s m meth c D ay ad1 ad2 b L xs) (i : Int32) (σ τ : hSt) (hf : F_law_807 xs L i σ τ = some o) (hb : ∀ (v : Int32 × hSt × hSt), o = .inl v → ∀ (H : Heap) (locs : List Loc) (ls : Array Slot), WL D ay ad1 ad2 s v.2.1 v.2.2 H locs → lv_has ls 4 [(0, .ref b), (1, .ref (ad1 0)), (2, .ref (ad2 0)), (3, .int v.1)] → W p l e room_1 s m #[Value.ref b] below meth c H locs 293 37911 (lw_Z below #[Value.ref b] s) (F0 m 18 ls [])) (hr : ∀ x, o = .inr x → x = 1) (w : WL D ay ad1 ad2 s σ τ H locs) (hl : lv_has ls 4 [(0, .ref b), (1, .ref (ad1 0)), (2, .ref (ad2 0)), (3, .int i)]) : W p l e room_1 s m #[Value.ref b] below meth c H locs 293 37911 (lw_Z below #[Value.ref b] s) (F0 m 807 ls []) := by
  unfold F_law_807 at hf
  refine lv_aload_n X.1.hx X.1.hb (dcs_get dec_law_13 11 rfl) rfl (lv_at hl 1 rfl) ?_
  refine lv_aload_n X.1.hx X.1.hb (dcs_get dec_law_13 12 rfl) rfl (lv_at hl 0 rfl) ?_
  refine lv_iload_n X.1.hx X.1.hb (dcs_get dec_law_13 13 rfl) rfl (lv_at hl 3 rfl) ?_
  refine lv_iconst (v := (1 : Int32)) X.1.hx X.1.hb (dcs_get dec_law_13 14 rfl) (by decide) ?_
  refine lv_iadd X.1.hx X.1.hb (dcs_get dec_law_13 15 rfl) ?_
  obtain ⟨h234, hf⟩ := cG_some hf
  refine va_sld X.1.hx X.1.hb X.2.2.2.1 X.2.2.2.2.1 (Nat.not_le.mpr X.2.2.2.2.1) w.2.2 (inb_in h234) (dcs_get dec_law_13 16 rfl) ?_
  obtain ⟨v236, σ237, h235, hf⟩ := cC_some hf
  refine a_i1 (k_V (K := kC) (c0 := 0) (As := [.int (xs (i + (1 : Int32)).toNatClampNeg)]) (rest := []) cls11 lb_X11_drums lv_X11_drums q_894 (C_X11_drums X.1.2.2.1 0 (xs (i + (1 : Int32)).toNatClampNeg) σ h235 ok11) ⟨Nat.le_of_ble_eq_true rfl, Nat.le_of_ble_eq_true rfl⟩ X.1 ⟨w.1, w.2.2⟩ (okr_in ok11).1 (okr_in ok11).2 rfl rfl hl.1 (Nat.le_of_ble_eq_true rfl) (dcs_get dec_law_13 17 rfl) ⟨Nat.le_of_ble_eq_true rfl, Nat.le_of_ble_eq_true rfl⟩) X w (fun H locs w => ?_)
  refine lv_aload_n X.1.hx X.1.hb (dcs_get dec_law_13 18 rfl) rfl (lv_at hl 2 rfl) ?_
  refine lv_aload_n X.1.hx X.1.hb (dcs_get dec_law_13 19 rfl) rfl (lv_at hl 0 rfl) ?_
  refine lv_iload_n X.1.hx X.1.hb (dcs_get dec_law_13 20 rfl) rfl (lv_at hl 3 rfl) ?_
  refine lv_iconst (v := (1 : Int32)) X.1.hx X.1.hb (dcs_get dec_law_13 21 rfl) (by decide) ?_
  refine lv_iadd X.1.hx X.1.hb (dcs_get dec_law_13 22 rfl) ?_
  obtain ⟨h238, hf⟩ := cG_some hf
  refine va_sld X.1.hx X.1.hb X.2.2.2.1 X.2.2.2.2.1 (Nat.not_le.mpr X.2.2.2.2.1) w.2.2 (inb_in h238) (dcs_get dec_law_13 23 rfl) ?_
  obtain ⟨v240, τ241, h239, hf⟩ := cC_some hf
  refine a_i2 (k_V (K := kM) (c0 := 0) (As := [.int (xs (i + (1 : Int32)).toNatClampNeg)]) (rest := [.int v236]) cls12 lb_X12_drums lv_X12_drums q_1511 (C_X12_drums X.2.1.2.2.1 0 (xs (i + (1 : Int32)).toNatClampNeg) τ h239 ok12) ⟨Nat.le_of_ble_eq_true rfl, Nat.le_of_ble_eq_true rfl⟩ X.2.1 ⟨w.2.1, w.2.2⟩ (okr_in ok12).1 (okr_in ok12).2 rfl rfl hl.1 (Nat.le_of_ble_eq_true rfl) (dcs_get dec_law_13 24 rfl) ⟨Nat.le_of_ble_eq_true rfl, Nat.le_of_ble_eq_true rfl⟩) X w (fun H locs w => ?_)
  refine lv_icmp_eq (tgt := 1160) X.1.hx X.1.hb (dcs_get dec_law_13 25 rfl) (by decide) (fun hc => ?_) (fun hc => ?_)
  · rw [if_pos hc] at hf
    obtain ⟨v242, e_v242, hf⟩ := cL_some hf
    refine lv_iinc (v := v242) (lv' := [(3, .int v242), (0, .ref b), (1, .ref (ad1 0)), (2, .ref (ad2 0))]) X.1.hx X.1.hb (dcs_get dec_law_20 18 rfl) hl (k := 3) rfl (by rw [e_v242]; rfl) (by decide) rfl (fun ls hl => ?_)
    refine lv_goto (tgt := 18) X.1.hx X.1.hb (dcs_get dec_law_20 19 rfl) (by decide) ?_
    exact hb (v242, σ237, τ241) (Option.some.inj hf).symm _ _ _ w (lv_sub hl [1, 2, 3, 0] rfl)
  · rw [if_neg hc] at hf
    refine lv_iconst (v := (0 : Int32)) X.1.hx X.1.hb (dcs_get dec_law_13 26 rfl) (by decide) ?_
    exact absurd (hr _ (Option.some.inj hf).symm) (by decide)
set_option maxRecDepth 100000 in
set_option maxHeartbeats 8000000 in
theorem B_law_830 {H : Heap} {locs : List Loc} {ls : Array Slot} {o : (Int32 × hSt × hSt) ⊕ Int32} (X : LC p s m meth c D ay ad1 ad2 b L xs) (i : Int32) (σ τ : hSt) (hf : F_law_830 xs L i σ τ = some o) (hb : ∀ (v : Int32 × hSt × hSt), o = .inl v → ∀ (H : Heap) (locs : List Loc) (ls : Array Slot), WL D ay ad1 ad2 s v.2.1 v.2.2 H locs → lv_has ls 4 [(0, .ref b), (1, .ref (ad1 0)), (2, .ref (ad2 0)), (3, .int v.1)] → W p l e room_1 s m #[Value.ref b] below meth c H locs 293 37911 (lw_Z below #[Value.ref b] s) (F0 m 18 ls [])) (hr : ∀ x, o = .inr x → x = 1) (w : WL D ay ad1 ad2 s σ τ H locs) (hl : lv_has ls 4 [(0, .ref b), (1, .ref (ad1 0)), (2, .ref (ad2 0)), (3, .int i)]) : W p l e room_1 s m #[Value.ref b] below meth c H locs 293 37911 (lw_Z below #[Value.ref b] s) (F0 m 830 ls []) := by
  unfold F_law_830 at hf
  refine lv_aload_n X.1.hx X.1.hb (dcs_get dec_law_13 28 rfl) rfl (lv_at hl 1 rfl) ?_
  refine lv_aload_n X.1.hx X.1.hb (dcs_get dec_law_13 29 rfl) rfl (lv_at hl 0 rfl) ?_
  refine lv_iload_n X.1.hx X.1.hb (dcs_get dec_law_13 30 rfl) rfl (lv_at hl 3 rfl) ?_
  refine lv_iconst (v := (1 : Int32)) X.1.hx X.1.hb (dcs_get dec_law_13 31 rfl) (by decide) ?_
  refine lv_iadd X.1.hx X.1.hb (dcs_get dec_law_13 32 rfl) ?_
  obtain ⟨h243, hf⟩ := cG_some hf
  refine va_sld X.1.hx X.1.hb X.2.2.2.1 X.2.2.2.2.1 (Nat.not_le.mpr X.2.2.2.2.1) w.2.2 (inb_in h243) (dcs_get dec_law_13 33 rfl) ?_
  refine lv_aload_n X.1.hx X.1.hb (dcs_get dec_law_13 34 rfl) rfl (lv_at hl 0 rfl) ?_
  refine lv_iload_n X.1.hx X.1.hb (dcs_get dec_law_13 35 rfl) rfl (lv_at hl 3 rfl) ?_
  refine lv_iconst (v := (2 : Int32)) X.1.hx X.1.hb (dcs_get dec_law_13 36 rfl) (by decide) ?_
  refine lv_iadd X.1.hx X.1.hb (dcs_get dec_law_13 37 rfl) ?_
  obtain ⟨h244, hf⟩ := cG_some hf
  refine va_sld X.1.hx X.1.hb X.2.2.2.1 X.2.2.2.2.1 (Nat.not_le.mpr X.2.2.2.2.1) w.2.2 (inb_in h244) (dcs_get dec_law_13 38 rfl) ?_
  refine lv_aload_n X.1.hx X.1.hb (dcs_get dec_law_13 39 rfl) rfl (lv_at hl 0 rfl) ?_
  refine lv_iload_n X.1.hx X.1.hb (dcs_get dec_law_14 0 rfl) rfl (lv_at hl 3 rfl) ?_
  refine lv_iconst (v := (3 : Int32)) X.1.hx X.1.hb (dcs_get dec_law_14 1 rfl) (by decide) ?_
  refine lv_iadd X.1.hx X.1.hb (dcs_get dec_law_14 2 rfl) ?_
  obtain ⟨h245, hf⟩ := cG_some hf
  refine va_sld X.1.hx X.1.hb X.2.2.2.1 X.2.2.2.2.1 (Nat.not_le.mpr X.2.2.2.2.1) w.2.2 (inb_in h245) (dcs_get dec_law_14 3 rfl) ?_
  obtain ⟨v247, σ248, h246, hf⟩ := cC_some hf
  refine a_i1 (k_V (K := kC) (c0 := 0) (As := [.int (xs (i + (1 : Int32)).toNatClampNeg), .int (xs (i + (2 : Int32)).toNatClampNeg), .int (xs (i + (3 : Int32)).toNatClampNeg)]) (rest := []) cls11 lb_X11_loophole lv_X11_loophole q_911 (C_X11_loophole X.1.2.2.1 0 (xs (i + (1 : Int32)).toNatClampNeg) (xs (i + (2 : Int32)).toNatClampNeg) (xs (i + (3 : Int32)).toNatClampNeg) σ h246 ok11) ⟨Nat.le_of_ble_eq_true rfl, Nat.le_of_ble_eq_true rfl⟩ X.1 ⟨w.1, w.2.2⟩ (okr_in ok11).1 (okr_in ok11).2 rfl rfl hl.1 (Nat.le_of_ble_eq_true rfl) (dcs_get dec_law_14 4 rfl) ⟨Nat.le_of_ble_eq_true rfl, Nat.le_of_ble_eq_true rfl⟩) X w (fun H locs w => ?_)
  refine lv_aload_n X.1.hx X.1.hb (dcs_get dec_law_14 5 rfl) rfl (lv_at hl 2 rfl) ?_
  refine lv_aload_n X.1.hx X.1.hb (dcs_get dec_law_14 6 rfl) rfl (lv_at hl 0 rfl) ?_
  refine lv_iload_n X.1.hx X.1.hb (dcs_get dec_law_14 7 rfl) rfl (lv_at hl 3 rfl) ?_
  refine lv_iconst (v := (1 : Int32)) X.1.hx X.1.hb (dcs_get dec_law_14 8 rfl) (by decide) ?_
  refine lv_iadd X.1.hx X.1.hb (dcs_get dec_law_14 9 rfl) ?_
  obtain ⟨h249, hf⟩ := cG_some hf
  refine va_sld X.1.hx X.1.hb X.2.2.2.1 X.2.2.2.2.1 (Nat.not_le.mpr X.2.2.2.2.1) w.2.2 (inb_in h249) (dcs_get dec_law_14 10 rfl) ?_
  refine lv_aload_n X.1.hx X.1.hb (dcs_get dec_law_14 11 rfl) rfl (lv_at hl 0 rfl) ?_
  refine lv_iload_n X.1.hx X.1.hb (dcs_get dec_law_14 12 rfl) rfl (lv_at hl 3 rfl) ?_
  refine lv_iconst (v := (2 : Int32)) X.1.hx X.1.hb (dcs_get dec_law_14 13 rfl) (by decide) ?_
  refine lv_iadd X.1.hx X.1.hb (dcs_get dec_law_14 14 rfl) ?_
  obtain ⟨h250, hf⟩ := cG_some hf
  refine va_sld X.1.hx X.1.hb X.2.2.2.1 X.2.2.2.2.1 (Nat.not_le.mpr X.2.2.2.2.1) w.2.2 (inb_in h250) (dcs_get dec_law_14 15 rfl) ?_
  refine lv_aload_n X.1.hx X.1.hb (dcs_get dec_law_14 16 rfl) rfl (lv_at hl 0 rfl) ?_
  refine lv_iload_n X.1.hx X.1.hb (dcs_get dec_law_14 17 rfl) rfl (lv_at hl 3 rfl) ?_
  refine lv_iconst (v := (3 : Int32)) X.1.hx X.1.hb (dcs_get dec_law_14 18 rfl) (by decide) ?_
  refine lv_iadd X.1.hx X.1.hb (dcs_get dec_law_14 19 rfl) ?_
  obtain ⟨h251, hf⟩ := cG_some hf
  refine va_sld X.1.hx X.1.hb X.2.2.2.1 X.2.2.2.2.1 (Nat.not_le.mpr X.2.2.2.2.1) w.2.2 (inb_in h251) (dcs_get dec_law_14 20 rfl) ?_
  obtain ⟨v253, τ254, h252, hf⟩ := cC_some hf
  refine a_i2 (k_V (K := kM) (c0 := 0) (As := [.int (xs (i + (1 : Int32)).toNatClampNeg), .int (xs (i + (2 : Int32)).toNatClampNeg), .int (xs (i + (3 : Int32)).toNatClampNeg)]) (rest := [.int v247]) cls12 lb_X12_loophole lv_X12_loophole q_1515 (C_X12_loophole X.2.1.2.2.1 0 (xs (i + (1 : Int32)).toNatClampNeg) (xs (i + (2 : Int32)).toNatClampNeg) (xs (i + (3 : Int32)).toNatClampNeg) τ h252 ok12) ⟨Nat.le_of_ble_eq_true rfl, Nat.le_of_ble_eq_true rfl⟩ X.2.1 ⟨w.2.1, w.2.2⟩ (okr_in ok12).1 (okr_in ok12).2 rfl rfl hl.1 (Nat.le_of_ble_eq_true rfl) (dcs_get dec_law_14 21 rfl) ⟨Nat.le_of_ble_eq_true rfl, Nat.le_of_ble_eq_true rfl⟩) X w (fun H locs w => ?_)
  refine lv_icmp_eq (tgt := 1160) X.1.hx X.1.hb (dcs_get dec_law_14 22 rfl) (by decide) (fun hc => ?_) (fun hc => ?_)
  · rw [if_pos hc] at hf
    obtain ⟨v255, e_v255, hf⟩ := cL_some hf
    refine lv_iinc (v := v255) (lv' := [(3, .int v255), (0, .ref b), (1, .ref (ad1 0)), (2, .ref (ad2 0))]) X.1.hx X.1.hb (dcs_get dec_law_20 18 rfl) hl (k := 3) rfl (by rw [e_v255]; rfl) (by decide) rfl (fun ls hl => ?_)
    refine lv_goto (tgt := 18) X.1.hx X.1.hb (dcs_get dec_law_20 19 rfl) (by decide) ?_
    exact hb (v255, σ248, τ254) (Option.some.inj hf).symm _ _ _ w (lv_sub hl [1, 2, 3, 0] rfl)
  · rw [if_neg hc] at hf
    refine lv_iconst (v := (0 : Int32)) X.1.hx X.1.hb (dcs_get dec_law_14 23 rfl) (by decide) ?_
    exact absurd (hr _ (Option.some.inj hf).symm) (by decide)
set_option maxRecDepth 100000 in
set_option maxHeartbeats 8000000 in
theorem B_law_873 {H : Heap} {locs : List Loc} {ls : Array Slot} {o : (Int32 × hSt × hSt) ⊕ Int32} (X : LC p s m meth c D ay ad1 ad2 b L xs) (i : Int32) (σ τ : hSt) (hf : F_law_873 xs L i σ τ = some o) (hb : ∀ (v : Int32 × hSt × hSt), o = .inl v → ∀ (H : Heap) (locs : List Loc) (ls : Array Slot), WL D ay ad1 ad2 s v.2.1 v.2.2 H locs → lv_has ls 4 [(0, .ref b), (1, .ref (ad1 0)), (2, .ref (ad2 0)), (3, .int v.1)] → W p l e room_1 s m #[Value.ref b] below meth c H locs 293 37911 (lw_Z below #[Value.ref b] s) (F0 m 18 ls [])) (hr : ∀ x, o = .inr x → x = 1) (w : WL D ay ad1 ad2 s σ τ H locs) (hl : lv_has ls 4 [(0, .ref b), (1, .ref (ad1 0)), (2, .ref (ad2 0)), (3, .int i)]) : W p l e room_1 s m #[Value.ref b] below meth c H locs 293 37911 (lw_Z below #[Value.ref b] s) (F0 m 873 ls []) := by
  unfold F_law_873 at hf
  refine lv_aload_n X.1.hx X.1.hb (dcs_get dec_law_14 25 rfl) rfl (lv_at hl 1 rfl) ?_
  refine lv_aload_n X.1.hx X.1.hb (dcs_get dec_law_14 26 rfl) rfl (lv_at hl 0 rfl) ?_
  refine lv_iload_n X.1.hx X.1.hb (dcs_get dec_law_14 27 rfl) rfl (lv_at hl 3 rfl) ?_
  refine lv_iconst (v := (1 : Int32)) X.1.hx X.1.hb (dcs_get dec_law_14 28 rfl) (by decide) ?_
  refine lv_iadd X.1.hx X.1.hb (dcs_get dec_law_14 29 rfl) ?_
  obtain ⟨h256, hf⟩ := cG_some hf
  refine va_sld X.1.hx X.1.hb X.2.2.2.1 X.2.2.2.2.1 (Nat.not_le.mpr X.2.2.2.2.1) w.2.2 (inb_in h256) (dcs_get dec_law_14 30 rfl) ?_
  refine lv_aload_n X.1.hx X.1.hb (dcs_get dec_law_14 31 rfl) rfl (lv_at hl 0 rfl) ?_
  refine lv_iload_n X.1.hx X.1.hb (dcs_get dec_law_14 32 rfl) rfl (lv_at hl 3 rfl) ?_
  refine lv_iconst (v := (2 : Int32)) X.1.hx X.1.hb (dcs_get dec_law_14 33 rfl) (by decide) ?_
  refine lv_iadd X.1.hx X.1.hb (dcs_get dec_law_14 34 rfl) ?_
  obtain ⟨h257, hf⟩ := cG_some hf
  refine va_sld X.1.hx X.1.hb X.2.2.2.1 X.2.2.2.2.1 (Nat.not_le.mpr X.2.2.2.2.1) w.2.2 (inb_in h257) (dcs_get dec_law_14 35 rfl) ?_
  refine lv_aload_n X.1.hx X.1.hb (dcs_get dec_law_14 36 rfl) rfl (lv_at hl 0 rfl) ?_
  refine lv_iload_n X.1.hx X.1.hb (dcs_get dec_law_14 37 rfl) rfl (lv_at hl 3 rfl) ?_
  refine lv_iconst (v := (3 : Int32)) X.1.hx X.1.hb (dcs_get dec_law_14 38 rfl) (by decide) ?_
  refine lv_iadd X.1.hx X.1.hb (dcs_get dec_law_14 39 rfl) ?_
  obtain ⟨h258, hf⟩ := cG_some hf
  refine va_sld X.1.hx X.1.hb X.2.2.2.1 X.2.2.2.2.1 (Nat.not_le.mpr X.2.2.2.2.1) w.2.2 (inb_in h258) (dcs_get dec_law_15 0 rfl) ?_
  refine lv_aload_n X.1.hx X.1.hb (dcs_get dec_law_15 1 rfl) rfl (lv_at hl 0 rfl) ?_
  refine lv_iload_n X.1.hx X.1.hb (dcs_get dec_law_15 2 rfl) rfl (lv_at hl 3 rfl) ?_
  refine lv_iconst (v := (4 : Int32)) X.1.hx X.1.hb (dcs_get dec_law_15 3 rfl) (by decide) ?_
  refine lv_iadd X.1.hx X.1.hb (dcs_get dec_law_15 4 rfl) ?_
  obtain ⟨h259, hf⟩ := cG_some hf
  refine va_sld X.1.hx X.1.hb X.2.2.2.1 X.2.2.2.2.1 (Nat.not_le.mpr X.2.2.2.2.1) w.2.2 (inb_in h259) (dcs_get dec_law_15 5 rfl) ?_
  obtain ⟨v261, σ262, h260, hf⟩ := cC_some hf
  refine a_i1 (k_V (K := kC) (c0 := 0) (As := [.int (xs (i + (1 : Int32)).toNatClampNeg), .int (xs (i + (2 : Int32)).toNatClampNeg), .int (xs (i + (3 : Int32)).toNatClampNeg), .int (xs (i + (4 : Int32)).toNatClampNeg)]) (rest := []) cls11 lb_X11_loopholeAt lv_X11_loopholeAt q_935 (C_X11_loopholeAt X.1.2.2.1 0 (xs (i + (1 : Int32)).toNatClampNeg) (xs (i + (2 : Int32)).toNatClampNeg) (xs (i + (3 : Int32)).toNatClampNeg) (xs (i + (4 : Int32)).toNatClampNeg) σ h260 ok11) ⟨Nat.le_of_ble_eq_true rfl, Nat.le_of_ble_eq_true rfl⟩ X.1 ⟨w.1, w.2.2⟩ (okr_in ok11).1 (okr_in ok11).2 rfl rfl hl.1 (Nat.le_of_ble_eq_true rfl) (dcs_get dec_law_15 6 rfl) ⟨Nat.le_of_ble_eq_true rfl, Nat.le_of_ble_eq_true rfl⟩) X w (fun H locs w => ?_)
  refine lv_aload_n X.1.hx X.1.hb (dcs_get dec_law_15 7 rfl) rfl (lv_at hl 2 rfl) ?_
  refine lv_aload_n X.1.hx X.1.hb (dcs_get dec_law_15 8 rfl) rfl (lv_at hl 0 rfl) ?_
  refine lv_iload_n X.1.hx X.1.hb (dcs_get dec_law_15 9 rfl) rfl (lv_at hl 3 rfl) ?_
  refine lv_iconst (v := (1 : Int32)) X.1.hx X.1.hb (dcs_get dec_law_15 10 rfl) (by decide) ?_
  refine lv_iadd X.1.hx X.1.hb (dcs_get dec_law_15 11 rfl) ?_
  obtain ⟨h263, hf⟩ := cG_some hf
  refine va_sld X.1.hx X.1.hb X.2.2.2.1 X.2.2.2.2.1 (Nat.not_le.mpr X.2.2.2.2.1) w.2.2 (inb_in h263) (dcs_get dec_law_15 12 rfl) ?_
  refine lv_aload_n X.1.hx X.1.hb (dcs_get dec_law_15 13 rfl) rfl (lv_at hl 0 rfl) ?_
  refine lv_iload_n X.1.hx X.1.hb (dcs_get dec_law_15 14 rfl) rfl (lv_at hl 3 rfl) ?_
  refine lv_iconst (v := (2 : Int32)) X.1.hx X.1.hb (dcs_get dec_law_15 15 rfl) (by decide) ?_
  refine lv_iadd X.1.hx X.1.hb (dcs_get dec_law_15 16 rfl) ?_
  obtain ⟨h264, hf⟩ := cG_some hf
  refine va_sld X.1.hx X.1.hb X.2.2.2.1 X.2.2.2.2.1 (Nat.not_le.mpr X.2.2.2.2.1) w.2.2 (inb_in h264) (dcs_get dec_law_15 17 rfl) ?_
  refine lv_aload_n X.1.hx X.1.hb (dcs_get dec_law_15 18 rfl) rfl (lv_at hl 0 rfl) ?_
  refine lv_iload_n X.1.hx X.1.hb (dcs_get dec_law_15 19 rfl) rfl (lv_at hl 3 rfl) ?_
  refine lv_iconst (v := (3 : Int32)) X.1.hx X.1.hb (dcs_get dec_law_15 20 rfl) (by decide) ?_
  refine lv_iadd X.1.hx X.1.hb (dcs_get dec_law_15 21 rfl) ?_
  obtain ⟨h265, hf⟩ := cG_some hf
  refine va_sld X.1.hx X.1.hb X.2.2.2.1 X.2.2.2.2.1 (Nat.not_le.mpr X.2.2.2.2.1) w.2.2 (inb_in h265) (dcs_get dec_law_15 22 rfl) ?_
  refine lv_aload_n X.1.hx X.1.hb (dcs_get dec_law_15 23 rfl) rfl (lv_at hl 0 rfl) ?_
  refine lv_iload_n X.1.hx X.1.hb (dcs_get dec_law_15 24 rfl) rfl (lv_at hl 3 rfl) ?_
  refine lv_iconst (v := (4 : Int32)) X.1.hx X.1.hb (dcs_get dec_law_15 25 rfl) (by decide) ?_
  refine lv_iadd X.1.hx X.1.hb (dcs_get dec_law_15 26 rfl) ?_
  obtain ⟨h266, hf⟩ := cG_some hf
  refine va_sld X.1.hx X.1.hb X.2.2.2.1 X.2.2.2.2.1 (Nat.not_le.mpr X.2.2.2.2.1) w.2.2 (inb_in h266) (dcs_get dec_law_15 27 rfl) ?_
  obtain ⟨v268, τ269, h267, hf⟩ := cC_some hf
  refine a_i2 (k_V (K := kM) (c0 := 0) (As := [.int (xs (i + (1 : Int32)).toNatClampNeg), .int (xs (i + (2 : Int32)).toNatClampNeg), .int (xs (i + (3 : Int32)).toNatClampNeg), .int (xs (i + (4 : Int32)).toNatClampNeg)]) (rest := [.int v261]) cls12 lb_X12_loopholeAt lv_X12_loopholeAt q_1535 (C_X12_loopholeAt X.2.1.2.2.1 0 (xs (i + (1 : Int32)).toNatClampNeg) (xs (i + (2 : Int32)).toNatClampNeg) (xs (i + (3 : Int32)).toNatClampNeg) (xs (i + (4 : Int32)).toNatClampNeg) τ h267 ok12) ⟨Nat.le_of_ble_eq_true rfl, Nat.le_of_ble_eq_true rfl⟩ X.2.1 ⟨w.2.1, w.2.2⟩ (okr_in ok12).1 (okr_in ok12).2 rfl rfl hl.1 (Nat.le_of_ble_eq_true rfl) (dcs_get dec_law_15 28 rfl) ⟨Nat.le_of_ble_eq_true rfl, Nat.le_of_ble_eq_true rfl⟩) X w (fun H locs w => ?_)
  refine lv_icmp_eq (tgt := 1160) X.1.hx X.1.hb (dcs_get dec_law_15 29 rfl) (by decide) (fun hc => ?_) (fun hc => ?_)
  · rw [if_pos hc] at hf
    obtain ⟨v270, e_v270, hf⟩ := cL_some hf
    refine lv_iinc (v := v270) (lv' := [(3, .int v270), (0, .ref b), (1, .ref (ad1 0)), (2, .ref (ad2 0))]) X.1.hx X.1.hb (dcs_get dec_law_20 18 rfl) hl (k := 3) rfl (by rw [e_v270]; rfl) (by decide) rfl (fun ls hl => ?_)
    refine lv_goto (tgt := 18) X.1.hx X.1.hb (dcs_get dec_law_20 19 rfl) (by decide) ?_
    exact hb (v270, σ262, τ269) (Option.some.inj hf).symm _ _ _ w (lv_sub hl [1, 2, 3, 0] rfl)
  · rw [if_neg hc] at hf
    refine lv_iconst (v := (0 : Int32)) X.1.hx X.1.hb (dcs_get dec_law_15 30 rfl) (by decide) ?_
    exact absurd (hr _ (Option.some.inj hf).symm) (by decide)
set_option maxRecDepth 100000 in
set_option maxHeartbeats 8000000 in
theorem B_law_926 {H : Heap} {locs : List Loc} {ls : Array Slot} {o : (Int32 × hSt × hSt) ⊕ Int32} (X : LC p s m meth c D ay ad1 ad2 b L xs) (i : Int32) (σ τ : hSt) (hf : F_law_926 xs L i σ τ = some o) (hb : ∀ (v : Int32 × hSt × hSt), o = .inl v → ∀ (H : Heap) (locs : List Loc) (ls : Array Slot), WL D ay ad1 ad2 s v.2.1 v.2.2 H locs → lv_has ls 4 [(0, .ref b), (1, .ref (ad1 0)), (2, .ref (ad2 0)), (3, .int v.1)] → W p l e room_1 s m #[Value.ref b] below meth c H locs 293 37911 (lw_Z below #[Value.ref b] s) (F0 m 18 ls [])) (hr : ∀ x, o = .inr x → x = 1) (w : WL D ay ad1 ad2 s σ τ H locs) (hl : lv_has ls 4 [(0, .ref b), (1, .ref (ad1 0)), (2, .ref (ad2 0)), (3, .int i)]) : W p l e room_1 s m #[Value.ref b] below meth c H locs 293 37911 (lw_Z below #[Value.ref b] s) (F0 m 926 ls []) := by
  unfold F_law_926 at hf
  refine lv_aload_n X.1.hx X.1.hb (dcs_get dec_law_15 32 rfl) rfl (lv_at hl 1 rfl) ?_
  refine lv_aload_n X.1.hx X.1.hb (dcs_get dec_law_15 33 rfl) rfl (lv_at hl 0 rfl) ?_
  refine lv_iload_n X.1.hx X.1.hb (dcs_get dec_law_15 34 rfl) rfl (lv_at hl 3 rfl) ?_
  refine lv_iconst (v := (1 : Int32)) X.1.hx X.1.hb (dcs_get dec_law_15 35 rfl) (by decide) ?_
  refine lv_iadd X.1.hx X.1.hb (dcs_get dec_law_15 36 rfl) ?_
  obtain ⟨h271, hf⟩ := cG_some hf
  refine va_sld X.1.hx X.1.hb X.2.2.2.1 X.2.2.2.2.1 (Nat.not_le.mpr X.2.2.2.2.1) w.2.2 (inb_in h271) (dcs_get dec_law_15 37 rfl) ?_
  obtain ⟨v273, h272, hf⟩ := cB_some hf
  refine a_i1 (k_V (K := kC) (c0 := 0) (As := [.int (xs (i + (1 : Int32)).toNatClampNeg)]) (rest := []) cls11 lb_X11_clashes lv_X11_clashes q_824 (C_X11_clashes X.1.2.2.1 0 (xs (i + (1 : Int32)).toNatClampNeg) σ h272 ok11) ⟨Nat.le_of_ble_eq_true rfl, Nat.le_of_ble_eq_true rfl⟩ X.1 ⟨w.1, w.2.2⟩ (okr_in ok11).1 (okr_in ok11).2 rfl rfl hl.1 (Nat.le_of_ble_eq_true rfl) (dcs_get dec_law_15 38 rfl) ⟨Nat.le_of_ble_eq_true rfl, Nat.le_of_ble_eq_true rfl⟩) X w (fun H locs w => ?_)
  refine lv_aload_n X.1.hx X.1.hb (dcs_get dec_law_15 39 rfl) rfl (lv_at hl 2 rfl) ?_
  refine lv_aload_n X.1.hx X.1.hb (dcs_get dec_law_16 0 rfl) rfl (lv_at hl 0 rfl) ?_
  refine lv_iload_n X.1.hx X.1.hb (dcs_get dec_law_16 1 rfl) rfl (lv_at hl 3 rfl) ?_
  refine lv_iconst (v := (1 : Int32)) X.1.hx X.1.hb (dcs_get dec_law_16 2 rfl) (by decide) ?_
  refine lv_iadd X.1.hx X.1.hb (dcs_get dec_law_16 3 rfl) ?_
  obtain ⟨h274, hf⟩ := cG_some hf
  refine va_sld X.1.hx X.1.hb X.2.2.2.1 X.2.2.2.2.1 (Nat.not_le.mpr X.2.2.2.2.1) w.2.2 (inb_in h274) (dcs_get dec_law_16 4 rfl) ?_
  obtain ⟨v276, h275, hf⟩ := cB_some hf
  refine a_i2 (k_V (K := kM) (c0 := 0) (As := [.int (xs (i + (1 : Int32)).toNatClampNeg)]) (rest := [.int v273]) cls12 lb_X12_clashes lv_X12_clashes q_1539 (C_X12_clashes X.2.1.2.2.1 0 (xs (i + (1 : Int32)).toNatClampNeg) τ h275 ok12) ⟨Nat.le_of_ble_eq_true rfl, Nat.le_of_ble_eq_true rfl⟩ X.2.1 ⟨w.2.1, w.2.2⟩ (okr_in ok12).1 (okr_in ok12).2 rfl rfl hl.1 (Nat.le_of_ble_eq_true rfl) (dcs_get dec_law_16 5 rfl) ⟨Nat.le_of_ble_eq_true rfl, Nat.le_of_ble_eq_true rfl⟩) X w (fun H locs w => ?_)
  refine lv_icmp_eq (tgt := 1160) X.1.hx X.1.hb (dcs_get dec_law_16 6 rfl) (by decide) (fun hc => ?_) (fun hc => ?_)
  · rw [if_pos hc] at hf
    obtain ⟨v277, e_v277, hf⟩ := cL_some hf
    refine lv_iinc (v := v277) (lv' := [(3, .int v277), (0, .ref b), (1, .ref (ad1 0)), (2, .ref (ad2 0))]) X.1.hx X.1.hb (dcs_get dec_law_20 18 rfl) hl (k := 3) rfl (by rw [e_v277]; rfl) (by decide) rfl (fun ls hl => ?_)
    refine lv_goto (tgt := 18) X.1.hx X.1.hb (dcs_get dec_law_20 19 rfl) (by decide) ?_
    exact hb (v277, σ, τ) (Option.some.inj hf).symm _ _ _ w (lv_sub hl [1, 2, 3, 0] rfl)
  · rw [if_neg hc] at hf
    refine lv_iconst (v := (0 : Int32)) X.1.hx X.1.hb (dcs_get dec_law_16 7 rfl) (by decide) ?_
    exact absurd (hr _ (Option.some.inj hf).symm) (by decide)
set_option maxRecDepth 100000 in
set_option maxHeartbeats 8000000 in
theorem B_law_949 {H : Heap} {locs : List Loc} {ls : Array Slot} {o : (Int32 × hSt × hSt) ⊕ Int32} (X : LC p s m meth c D ay ad1 ad2 b L xs) (i : Int32) (σ τ : hSt) (hf : F_law_949 xs L i σ τ = some o) (hb : ∀ (v : Int32 × hSt × hSt), o = .inl v → ∀ (H : Heap) (locs : List Loc) (ls : Array Slot), WL D ay ad1 ad2 s v.2.1 v.2.2 H locs → lv_has ls 4 [(0, .ref b), (1, .ref (ad1 0)), (2, .ref (ad2 0)), (3, .int v.1)] → W p l e room_1 s m #[Value.ref b] below meth c H locs 293 37911 (lw_Z below #[Value.ref b] s) (F0 m 18 ls [])) (hr : ∀ x, o = .inr x → x = 1) (w : WL D ay ad1 ad2 s σ τ H locs) (hl : lv_has ls 4 [(0, .ref b), (1, .ref (ad1 0)), (2, .ref (ad2 0)), (3, .int i)]) : W p l e room_1 s m #[Value.ref b] below meth c H locs 293 37911 (lw_Z below #[Value.ref b] s) (F0 m 949 ls []) := by
  unfold F_law_949 at hf
  refine lv_aload_n X.1.hx X.1.hb (dcs_get dec_law_16 9 rfl) rfl (lv_at hl 1 rfl) ?_
  refine lv_aload_n X.1.hx X.1.hb (dcs_get dec_law_16 10 rfl) rfl (lv_at hl 0 rfl) ?_
  refine lv_iload_n X.1.hx X.1.hb (dcs_get dec_law_16 11 rfl) rfl (lv_at hl 3 rfl) ?_
  refine lv_iconst (v := (1 : Int32)) X.1.hx X.1.hb (dcs_get dec_law_16 12 rfl) (by decide) ?_
  refine lv_iadd X.1.hx X.1.hb (dcs_get dec_law_16 13 rfl) ?_
  obtain ⟨h278, hf⟩ := cG_some hf
  refine va_sld X.1.hx X.1.hb X.2.2.2.1 X.2.2.2.2.1 (Nat.not_le.mpr X.2.2.2.2.1) w.2.2 (inb_in h278) (dcs_get dec_law_16 14 rfl) ?_
  refine lv_aload_n X.1.hx X.1.hb (dcs_get dec_law_16 15 rfl) rfl (lv_at hl 0 rfl) ?_
  refine lv_iload_n X.1.hx X.1.hb (dcs_get dec_law_16 16 rfl) rfl (lv_at hl 3 rfl) ?_
  refine lv_iconst (v := (2 : Int32)) X.1.hx X.1.hb (dcs_get dec_law_16 17 rfl) (by decide) ?_
  refine lv_iadd X.1.hx X.1.hb (dcs_get dec_law_16 18 rfl) ?_
  obtain ⟨h279, hf⟩ := cG_some hf
  refine va_sld X.1.hx X.1.hb X.2.2.2.1 X.2.2.2.2.1 (Nat.not_le.mpr X.2.2.2.2.1) w.2.2 (inb_in h279) (dcs_get dec_law_16 19 rfl) ?_
  refine lv_aload_n X.1.hx X.1.hb (dcs_get dec_law_16 20 rfl) rfl (lv_at hl 0 rfl) ?_
  refine lv_iload_n X.1.hx X.1.hb (dcs_get dec_law_16 21 rfl) rfl (lv_at hl 3 rfl) ?_
  refine lv_iconst (v := (3 : Int32)) X.1.hx X.1.hb (dcs_get dec_law_16 22 rfl) (by decide) ?_
  refine lv_iadd X.1.hx X.1.hb (dcs_get dec_law_16 23 rfl) ?_
  obtain ⟨h280, hf⟩ := cG_some hf
  refine va_sld X.1.hx X.1.hb X.2.2.2.1 X.2.2.2.2.1 (Nat.not_le.mpr X.2.2.2.2.1) w.2.2 (inb_in h280) (dcs_get dec_law_16 24 rfl) ?_
  refine lv_aload_n X.1.hx X.1.hb (dcs_get dec_law_16 25 rfl) rfl (lv_at hl 0 rfl) ?_
  refine lv_iload_n X.1.hx X.1.hb (dcs_get dec_law_16 26 rfl) rfl (lv_at hl 3 rfl) ?_
  refine lv_iconst (v := (4 : Int32)) X.1.hx X.1.hb (dcs_get dec_law_16 27 rfl) (by decide) ?_
  refine lv_iadd X.1.hx X.1.hb (dcs_get dec_law_16 28 rfl) ?_
  obtain ⟨h281, hf⟩ := cG_some hf
  refine va_sld X.1.hx X.1.hb X.2.2.2.1 X.2.2.2.2.1 (Nat.not_le.mpr X.2.2.2.2.1) w.2.2 (inb_in h281) (dcs_get dec_law_16 29 rfl) ?_
  obtain ⟨v283, h282, hf⟩ := cB_some hf
  refine a_i1 (k_V (K := kC) (c0 := 0) (As := [.int (xs (i + (1 : Int32)).toNatClampNeg), .int (xs (i + (2 : Int32)).toNatClampNeg), .int (xs (i + (3 : Int32)).toNatClampNeg), .int (xs (i + (4 : Int32)).toNatClampNeg)]) (rest := []) cls11 lb_X11_sure lv_X11_sure q_940 (C_X11_sure X.1.2.2.1 0 (xs (i + (1 : Int32)).toNatClampNeg) (xs (i + (2 : Int32)).toNatClampNeg) (xs (i + (3 : Int32)).toNatClampNeg) (xs (i + (4 : Int32)).toNatClampNeg) σ h282 ok11) ⟨Nat.le_of_ble_eq_true rfl, Nat.le_of_ble_eq_true rfl⟩ X.1 ⟨w.1, w.2.2⟩ (okr_in ok11).1 (okr_in ok11).2 rfl rfl hl.1 (Nat.le_of_ble_eq_true rfl) (dcs_get dec_law_16 30 rfl) ⟨Nat.le_of_ble_eq_true rfl, Nat.le_of_ble_eq_true rfl⟩) X w (fun H locs w => ?_)
  refine lv_aload_n X.1.hx X.1.hb (dcs_get dec_law_16 31 rfl) rfl (lv_at hl 2 rfl) ?_
  refine lv_aload_n X.1.hx X.1.hb (dcs_get dec_law_16 32 rfl) rfl (lv_at hl 0 rfl) ?_
  refine lv_iload_n X.1.hx X.1.hb (dcs_get dec_law_16 33 rfl) rfl (lv_at hl 3 rfl) ?_
  refine lv_iconst (v := (1 : Int32)) X.1.hx X.1.hb (dcs_get dec_law_16 34 rfl) (by decide) ?_
  refine lv_iadd X.1.hx X.1.hb (dcs_get dec_law_16 35 rfl) ?_
  obtain ⟨h284, hf⟩ := cG_some hf
  refine va_sld X.1.hx X.1.hb X.2.2.2.1 X.2.2.2.2.1 (Nat.not_le.mpr X.2.2.2.2.1) w.2.2 (inb_in h284) (dcs_get dec_law_16 36 rfl) ?_
  refine lv_aload_n X.1.hx X.1.hb (dcs_get dec_law_16 37 rfl) rfl (lv_at hl 0 rfl) ?_
  refine lv_iload_n X.1.hx X.1.hb (dcs_get dec_law_16 38 rfl) rfl (lv_at hl 3 rfl) ?_
  refine lv_iconst (v := (2 : Int32)) X.1.hx X.1.hb (dcs_get dec_law_16 39 rfl) (by decide) ?_
  refine lv_iadd X.1.hx X.1.hb (dcs_get dec_law_17 0 rfl) ?_
  obtain ⟨h285, hf⟩ := cG_some hf
  refine va_sld X.1.hx X.1.hb X.2.2.2.1 X.2.2.2.2.1 (Nat.not_le.mpr X.2.2.2.2.1) w.2.2 (inb_in h285) (dcs_get dec_law_17 1 rfl) ?_
  refine lv_aload_n X.1.hx X.1.hb (dcs_get dec_law_17 2 rfl) rfl (lv_at hl 0 rfl) ?_
  refine lv_iload_n X.1.hx X.1.hb (dcs_get dec_law_17 3 rfl) rfl (lv_at hl 3 rfl) ?_
  refine lv_iconst (v := (3 : Int32)) X.1.hx X.1.hb (dcs_get dec_law_17 4 rfl) (by decide) ?_
  refine lv_iadd X.1.hx X.1.hb (dcs_get dec_law_17 5 rfl) ?_
  obtain ⟨h286, hf⟩ := cG_some hf
  refine va_sld X.1.hx X.1.hb X.2.2.2.1 X.2.2.2.2.1 (Nat.not_le.mpr X.2.2.2.2.1) w.2.2 (inb_in h286) (dcs_get dec_law_17 6 rfl) ?_
  refine lv_aload_n X.1.hx X.1.hb (dcs_get dec_law_17 7 rfl) rfl (lv_at hl 0 rfl) ?_
  refine lv_iload_n X.1.hx X.1.hb (dcs_get dec_law_17 8 rfl) rfl (lv_at hl 3 rfl) ?_
  refine lv_iconst (v := (4 : Int32)) X.1.hx X.1.hb (dcs_get dec_law_17 9 rfl) (by decide) ?_
  refine lv_iadd X.1.hx X.1.hb (dcs_get dec_law_17 10 rfl) ?_
  obtain ⟨h287, hf⟩ := cG_some hf
  refine va_sld X.1.hx X.1.hb X.2.2.2.1 X.2.2.2.2.1 (Nat.not_le.mpr X.2.2.2.2.1) w.2.2 (inb_in h287) (dcs_get dec_law_17 11 rfl) ?_
  obtain ⟨v289, h288, hf⟩ := cB_some hf
  refine a_i2 (k_V (K := kM) (c0 := 0) (As := [.int (xs (i + (1 : Int32)).toNatClampNeg), .int (xs (i + (2 : Int32)).toNatClampNeg), .int (xs (i + (3 : Int32)).toNatClampNeg), .int (xs (i + (4 : Int32)).toNatClampNeg)]) (rest := [.int v283]) cls12 lb_X12_sure lv_X12_sure q_1543 (C_X12_sure X.2.1.2.2.1 0 (xs (i + (1 : Int32)).toNatClampNeg) (xs (i + (2 : Int32)).toNatClampNeg) (xs (i + (3 : Int32)).toNatClampNeg) (xs (i + (4 : Int32)).toNatClampNeg) τ h288 ok12) ⟨Nat.le_of_ble_eq_true rfl, Nat.le_of_ble_eq_true rfl⟩ X.2.1 ⟨w.2.1, w.2.2⟩ (okr_in ok12).1 (okr_in ok12).2 rfl rfl hl.1 (Nat.le_of_ble_eq_true rfl) (dcs_get dec_law_17 12 rfl) ⟨Nat.le_of_ble_eq_true rfl, Nat.le_of_ble_eq_true rfl⟩) X w (fun H locs w => ?_)
  refine lv_icmp_eq (tgt := 1160) X.1.hx X.1.hb (dcs_get dec_law_17 13 rfl) (by decide) (fun hc => ?_) (fun hc => ?_)
  · rw [if_pos hc] at hf
    obtain ⟨v290, e_v290, hf⟩ := cL_some hf
    refine lv_iinc (v := v290) (lv' := [(3, .int v290), (0, .ref b), (1, .ref (ad1 0)), (2, .ref (ad2 0))]) X.1.hx X.1.hb (dcs_get dec_law_20 18 rfl) hl (k := 3) rfl (by rw [e_v290]; rfl) (by decide) rfl (fun ls hl => ?_)
    refine lv_goto (tgt := 18) X.1.hx X.1.hb (dcs_get dec_law_20 19 rfl) (by decide) ?_
    exact hb (v290, σ, τ) (Option.some.inj hf).symm _ _ _ w (lv_sub hl [1, 2, 3, 0] rfl)
  · rw [if_neg hc] at hf
    refine lv_iconst (v := (0 : Int32)) X.1.hx X.1.hb (dcs_get dec_law_17 14 rfl) (by decide) ?_
    exact absurd (hr _ (Option.some.inj hf).symm) (by decide)
set_option maxRecDepth 100000 in
set_option maxHeartbeats 8000000 in
theorem B_law_1002 {H : Heap} {locs : List Loc} {ls : Array Slot} {o : (Int32 × hSt × hSt) ⊕ Int32} (X : LC p s m meth c D ay ad1 ad2 b L xs) (i : Int32) (σ τ : hSt) (hf : F_law_1002 xs L i σ τ = some o) (hb : ∀ (v : Int32 × hSt × hSt), o = .inl v → ∀ (H : Heap) (locs : List Loc) (ls : Array Slot), WL D ay ad1 ad2 s v.2.1 v.2.2 H locs → lv_has ls 4 [(0, .ref b), (1, .ref (ad1 0)), (2, .ref (ad2 0)), (3, .int v.1)] → W p l e room_1 s m #[Value.ref b] below meth c H locs 293 37911 (lw_Z below #[Value.ref b] s) (F0 m 18 ls [])) (hr : ∀ x, o = .inr x → x = 1) (w : WL D ay ad1 ad2 s σ τ H locs) (hl : lv_has ls 4 [(0, .ref b), (1, .ref (ad1 0)), (2, .ref (ad2 0)), (3, .int i)]) : W p l e room_1 s m #[Value.ref b] below meth c H locs 293 37911 (lw_Z below #[Value.ref b] s) (F0 m 1002 ls []) := by
  unfold F_law_1002 at hf
  refine lv_aload_n X.1.hx X.1.hb (dcs_get dec_law_17 16 rfl) rfl (lv_at hl 1 rfl) ?_
  refine lv_aload_n X.1.hx X.1.hb (dcs_get dec_law_17 17 rfl) rfl (lv_at hl 0 rfl) ?_
  refine lv_iload_n X.1.hx X.1.hb (dcs_get dec_law_17 18 rfl) rfl (lv_at hl 3 rfl) ?_
  refine lv_iconst (v := (1 : Int32)) X.1.hx X.1.hb (dcs_get dec_law_17 19 rfl) (by decide) ?_
  refine lv_iadd X.1.hx X.1.hb (dcs_get dec_law_17 20 rfl) ?_
  obtain ⟨h291, hf⟩ := cG_some hf
  refine va_sld X.1.hx X.1.hb X.2.2.2.1 X.2.2.2.2.1 (Nat.not_le.mpr X.2.2.2.2.1) w.2.2 (inb_in h291) (dcs_get dec_law_17 21 rfl) ?_
  refine lv_aload_n X.1.hx X.1.hb (dcs_get dec_law_17 22 rfl) rfl (lv_at hl 0 rfl) ?_
  refine lv_iload_n X.1.hx X.1.hb (dcs_get dec_law_17 23 rfl) rfl (lv_at hl 3 rfl) ?_
  refine lv_iconst (v := (2 : Int32)) X.1.hx X.1.hb (dcs_get dec_law_17 24 rfl) (by decide) ?_
  refine lv_iadd X.1.hx X.1.hb (dcs_get dec_law_17 25 rfl) ?_
  obtain ⟨h292, hf⟩ := cG_some hf
  refine va_sld X.1.hx X.1.hb X.2.2.2.1 X.2.2.2.2.1 (Nat.not_le.mpr X.2.2.2.2.1) w.2.2 (inb_in h292) (dcs_get dec_law_17 26 rfl) ?_
  refine lv_aload_n X.1.hx X.1.hb (dcs_get dec_law_17 27 rfl) rfl (lv_at hl 0 rfl) ?_
  refine lv_iload_n X.1.hx X.1.hb (dcs_get dec_law_17 28 rfl) rfl (lv_at hl 3 rfl) ?_
  refine lv_iconst (v := (3 : Int32)) X.1.hx X.1.hb (dcs_get dec_law_17 29 rfl) (by decide) ?_
  refine lv_iadd X.1.hx X.1.hb (dcs_get dec_law_17 30 rfl) ?_
  obtain ⟨h293, hf⟩ := cG_some hf
  refine va_sld X.1.hx X.1.hb X.2.2.2.1 X.2.2.2.2.1 (Nat.not_le.mpr X.2.2.2.2.1) w.2.2 (inb_in h293) (dcs_get dec_law_17 31 rfl) ?_
  obtain ⟨v295, σ296, h294, hf⟩ := cC_some hf
  refine a_i1 (k_V (K := kC) (c0 := 0) (As := [.int (xs (i + (1 : Int32)).toNatClampNeg), .int (xs (i + (2 : Int32)).toNatClampNeg), .int (xs (i + (3 : Int32)).toNatClampNeg)]) (rest := []) cls11 lb_X11_tell lv_X11_tell q_944 (C_X11_tell X.1.2.2.1 0 (xs (i + (1 : Int32)).toNatClampNeg) (xs (i + (2 : Int32)).toNatClampNeg) (xs (i + (3 : Int32)).toNatClampNeg) σ h294 ok11) ⟨Nat.le_of_ble_eq_true rfl, Nat.le_of_ble_eq_true rfl⟩ X.1 ⟨w.1, w.2.2⟩ (okr_in ok11).1 (okr_in ok11).2 rfl rfl hl.1 (Nat.le_of_ble_eq_true rfl) (dcs_get dec_law_17 32 rfl) ⟨Nat.le_of_ble_eq_true rfl, Nat.le_of_ble_eq_true rfl⟩) X w (fun H locs w => ?_)
  refine lv_aload_n X.1.hx X.1.hb (dcs_get dec_law_17 33 rfl) rfl (lv_at hl 2 rfl) ?_
  refine lv_aload_n X.1.hx X.1.hb (dcs_get dec_law_17 34 rfl) rfl (lv_at hl 0 rfl) ?_
  refine lv_iload_n X.1.hx X.1.hb (dcs_get dec_law_17 35 rfl) rfl (lv_at hl 3 rfl) ?_
  refine lv_iconst (v := (1 : Int32)) X.1.hx X.1.hb (dcs_get dec_law_17 36 rfl) (by decide) ?_
  refine lv_iadd X.1.hx X.1.hb (dcs_get dec_law_17 37 rfl) ?_
  obtain ⟨h297, hf⟩ := cG_some hf
  refine va_sld X.1.hx X.1.hb X.2.2.2.1 X.2.2.2.2.1 (Nat.not_le.mpr X.2.2.2.2.1) w.2.2 (inb_in h297) (dcs_get dec_law_17 38 rfl) ?_
  refine lv_aload_n X.1.hx X.1.hb (dcs_get dec_law_17 39 rfl) rfl (lv_at hl 0 rfl) ?_
  refine lv_iload_n X.1.hx X.1.hb (dcs_get dec_law_18 0 rfl) rfl (lv_at hl 3 rfl) ?_
  refine lv_iconst (v := (2 : Int32)) X.1.hx X.1.hb (dcs_get dec_law_18 1 rfl) (by decide) ?_
  refine lv_iadd X.1.hx X.1.hb (dcs_get dec_law_18 2 rfl) ?_
  obtain ⟨h298, hf⟩ := cG_some hf
  refine va_sld X.1.hx X.1.hb X.2.2.2.1 X.2.2.2.2.1 (Nat.not_le.mpr X.2.2.2.2.1) w.2.2 (inb_in h298) (dcs_get dec_law_18 3 rfl) ?_
  refine lv_aload_n X.1.hx X.1.hb (dcs_get dec_law_18 4 rfl) rfl (lv_at hl 0 rfl) ?_
  refine lv_iload_n X.1.hx X.1.hb (dcs_get dec_law_18 5 rfl) rfl (lv_at hl 3 rfl) ?_
  refine lv_iconst (v := (3 : Int32)) X.1.hx X.1.hb (dcs_get dec_law_18 6 rfl) (by decide) ?_
  refine lv_iadd X.1.hx X.1.hb (dcs_get dec_law_18 7 rfl) ?_
  obtain ⟨h299, hf⟩ := cG_some hf
  refine va_sld X.1.hx X.1.hb X.2.2.2.1 X.2.2.2.2.1 (Nat.not_le.mpr X.2.2.2.2.1) w.2.2 (inb_in h299) (dcs_get dec_law_18 8 rfl) ?_
  obtain ⟨v301, τ302, h300, hf⟩ := cC_some hf
  refine a_i2 (k_V (K := kM) (c0 := 0) (As := [.int (xs (i + (1 : Int32)).toNatClampNeg), .int (xs (i + (2 : Int32)).toNatClampNeg), .int (xs (i + (3 : Int32)).toNatClampNeg)]) (rest := [.int v295]) cls12 lb_X12_tell_ lv_X12_tell_ q_1547 (C_X12_tell_ X.2.1.2.2.1 0 (xs (i + (1 : Int32)).toNatClampNeg) (xs (i + (2 : Int32)).toNatClampNeg) (xs (i + (3 : Int32)).toNatClampNeg) τ h300 ok12) ⟨Nat.le_of_ble_eq_true rfl, Nat.le_of_ble_eq_true rfl⟩ X.2.1 ⟨w.2.1, w.2.2⟩ (okr_in ok12).1 (okr_in ok12).2 rfl rfl hl.1 (Nat.le_of_ble_eq_true rfl) (dcs_get dec_law_18 9 rfl) ⟨Nat.le_of_ble_eq_true rfl, Nat.le_of_ble_eq_true rfl⟩) X w (fun H locs w => ?_)
  refine lv_icmp_eq (tgt := 1160) X.1.hx X.1.hb (dcs_get dec_law_18 10 rfl) (by decide) (fun hc => ?_) (fun hc => ?_)
  · rw [if_pos hc] at hf
    obtain ⟨v303, e_v303, hf⟩ := cL_some hf
    refine lv_iinc (v := v303) (lv' := [(3, .int v303), (0, .ref b), (1, .ref (ad1 0)), (2, .ref (ad2 0))]) X.1.hx X.1.hb (dcs_get dec_law_20 18 rfl) hl (k := 3) rfl (by rw [e_v303]; rfl) (by decide) rfl (fun ls hl => ?_)
    refine lv_goto (tgt := 18) X.1.hx X.1.hb (dcs_get dec_law_20 19 rfl) (by decide) ?_
    exact hb (v303, σ296, τ302) (Option.some.inj hf).symm _ _ _ w (lv_sub hl [1, 2, 3, 0] rfl)
  · rw [if_neg hc] at hf
    refine lv_iconst (v := (0 : Int32)) X.1.hx X.1.hb (dcs_get dec_law_18 11 rfl) (by decide) ?_
    exact absurd (hr _ (Option.some.inj hf).symm) (by decide)
set_option maxRecDepth 100000 in
set_option maxHeartbeats 8000000 in
theorem B_law_1045 {H : Heap} {locs : List Loc} {ls : Array Slot} {o : (Int32 × hSt × hSt) ⊕ Int32} (X : LC p s m meth c D ay ad1 ad2 b L xs) (i : Int32) (σ τ : hSt) (hf : F_law_1045 xs L i σ τ = some o) (hb : ∀ (v : Int32 × hSt × hSt), o = .inl v → ∀ (H : Heap) (locs : List Loc) (ls : Array Slot), WL D ay ad1 ad2 s v.2.1 v.2.2 H locs → lv_has ls 4 [(0, .ref b), (1, .ref (ad1 0)), (2, .ref (ad2 0)), (3, .int v.1)] → W p l e room_1 s m #[Value.ref b] below meth c H locs 293 37911 (lw_Z below #[Value.ref b] s) (F0 m 18 ls [])) (hr : ∀ x, o = .inr x → x = 1) (w : WL D ay ad1 ad2 s σ τ H locs) (hl : lv_has ls 4 [(0, .ref b), (1, .ref (ad1 0)), (2, .ref (ad2 0)), (3, .int i)]) : W p l e room_1 s m #[Value.ref b] below meth c H locs 293 37911 (lw_Z below #[Value.ref b] s) (F0 m 1045 ls []) := by
  unfold F_law_1045 at hf
  refine lv_aload_n X.1.hx X.1.hb (dcs_get dec_law_18 13 rfl) rfl (lv_at hl 1 rfl) ?_
  obtain ⟨v305, σ306, h304, hf⟩ := cC_some hf
  refine a_i1 (k_V (K := kC) (c0 := 0) (As := []) (rest := []) cls11 lb_X11_forget lv_X11_forget q_952 (C_X11_forget X.1.2.2.1 0  σ h304 ok11) ⟨Nat.le_of_ble_eq_true rfl, Nat.le_of_ble_eq_true rfl⟩ X.1 ⟨w.1, w.2.2⟩ (okr_in ok11).1 (okr_in ok11).2 rfl rfl hl.1 (Nat.le_of_ble_eq_true rfl) (dcs_get dec_law_18 14 rfl) ⟨Nat.le_of_ble_eq_true rfl, Nat.le_of_ble_eq_true rfl⟩) X w (fun H locs w => ?_)
  refine lv_aload_n X.1.hx X.1.hb (dcs_get dec_law_18 15 rfl) rfl (lv_at hl 2 rfl) ?_
  obtain ⟨v308, τ309, h307, hf⟩ := cC_some hf
  refine a_i2 (k_V (K := kM) (c0 := 0) (As := []) (rest := [.int v305]) cls12 lb_X12_forget lv_X12_forget q_1551 (C_X12_forget X.2.1.2.2.1 0  τ h307 ok12) ⟨Nat.le_of_ble_eq_true rfl, Nat.le_of_ble_eq_true rfl⟩ X.2.1 ⟨w.2.1, w.2.2⟩ (okr_in ok12).1 (okr_in ok12).2 rfl rfl hl.1 (Nat.le_of_ble_eq_true rfl) (dcs_get dec_law_18 16 rfl) ⟨Nat.le_of_ble_eq_true rfl, Nat.le_of_ble_eq_true rfl⟩) X w (fun H locs w => ?_)
  refine lv_icmp_eq (tgt := 1160) X.1.hx X.1.hb (dcs_get dec_law_18 17 rfl) (by decide) (fun hc => ?_) (fun hc => ?_)
  · rw [if_pos hc] at hf
    obtain ⟨v310, e_v310, hf⟩ := cL_some hf
    refine lv_iinc (v := v310) (lv' := [(3, .int v310), (0, .ref b), (1, .ref (ad1 0)), (2, .ref (ad2 0))]) X.1.hx X.1.hb (dcs_get dec_law_20 18 rfl) hl (k := 3) rfl (by rw [e_v310]; rfl) (by decide) rfl (fun ls hl => ?_)
    refine lv_goto (tgt := 18) X.1.hx X.1.hb (dcs_get dec_law_20 19 rfl) (by decide) ?_
    exact hb (v310, σ306, τ309) (Option.some.inj hf).symm _ _ _ w (lv_sub hl [1, 2, 3, 0] rfl)
  · rw [if_neg hc] at hf
    refine lv_iconst (v := (0 : Int32)) X.1.hx X.1.hb (dcs_get dec_law_18 18 rfl) (by decide) ?_
    exact absurd (hr _ (Option.some.inj hf).symm) (by decide)
set_option maxRecDepth 100000 in
set_option maxHeartbeats 8000000 in
theorem B_law_1058 {H : Heap} {locs : List Loc} {ls : Array Slot} {o : (Int32 × hSt × hSt) ⊕ Int32} (X : LC p s m meth c D ay ad1 ad2 b L xs) (i : Int32) (σ τ : hSt) (hf : F_law_1058 xs L i σ τ = some o) (hb : ∀ (v : Int32 × hSt × hSt), o = .inl v → ∀ (H : Heap) (locs : List Loc) (ls : Array Slot), WL D ay ad1 ad2 s v.2.1 v.2.2 H locs → lv_has ls 4 [(0, .ref b), (1, .ref (ad1 0)), (2, .ref (ad2 0)), (3, .int v.1)] → W p l e room_1 s m #[Value.ref b] below meth c H locs 293 37911 (lw_Z below #[Value.ref b] s) (F0 m 18 ls [])) (hr : ∀ x, o = .inr x → x = 1) (w : WL D ay ad1 ad2 s σ τ H locs) (hl : lv_has ls 4 [(0, .ref b), (1, .ref (ad1 0)), (2, .ref (ad2 0)), (3, .int i)]) : W p l e room_1 s m #[Value.ref b] below meth c H locs 293 37911 (lw_Z below #[Value.ref b] s) (F0 m 1058 ls []) := by
  unfold F_law_1058 at hf
  refine lv_aload_n X.1.hx X.1.hb (dcs_get dec_law_18 20 rfl) rfl (lv_at hl 1 rfl) ?_
  refine lv_aload_n X.1.hx X.1.hb (dcs_get dec_law_18 21 rfl) rfl (lv_at hl 0 rfl) ?_
  refine lv_iload_n X.1.hx X.1.hb (dcs_get dec_law_18 22 rfl) rfl (lv_at hl 3 rfl) ?_
  refine lv_iconst (v := (1 : Int32)) X.1.hx X.1.hb (dcs_get dec_law_18 23 rfl) (by decide) ?_
  refine lv_iadd X.1.hx X.1.hb (dcs_get dec_law_18 24 rfl) ?_
  obtain ⟨h311, hf⟩ := cG_some hf
  refine va_sld X.1.hx X.1.hb X.2.2.2.1 X.2.2.2.2.1 (Nat.not_le.mpr X.2.2.2.2.1) w.2.2 (inb_in h311) (dcs_get dec_law_18 25 rfl) ?_
  refine lv_aload_n X.1.hx X.1.hb (dcs_get dec_law_18 26 rfl) rfl (lv_at hl 0 rfl) ?_
  refine lv_iload_n X.1.hx X.1.hb (dcs_get dec_law_18 27 rfl) rfl (lv_at hl 3 rfl) ?_
  refine lv_iconst (v := (2 : Int32)) X.1.hx X.1.hb (dcs_get dec_law_18 28 rfl) (by decide) ?_
  refine lv_iadd X.1.hx X.1.hb (dcs_get dec_law_18 29 rfl) ?_
  obtain ⟨h312, hf⟩ := cG_some hf
  refine va_sld X.1.hx X.1.hb X.2.2.2.1 X.2.2.2.2.1 (Nat.not_le.mpr X.2.2.2.2.1) w.2.2 (inb_in h312) (dcs_get dec_law_18 30 rfl) ?_
  obtain ⟨v314, σ315, h313, hf⟩ := cC_some hf
  refine a_i1 (k_V (K := kC) (c0 := 0) (As := [.int (xs (i + (1 : Int32)).toNatClampNeg), .int (xs (i + (2 : Int32)).toNatClampNeg)]) (rest := []) cls11 lb_X11_beginners lv_X11_beginners q_956 (C_X11_beginners X.1.2.2.1 0 (xs (i + (1 : Int32)).toNatClampNeg) (xs (i + (2 : Int32)).toNatClampNeg) σ h313 ok11) ⟨Nat.le_of_ble_eq_true rfl, Nat.le_of_ble_eq_true rfl⟩ X.1 ⟨w.1, w.2.2⟩ (okr_in ok11).1 (okr_in ok11).2 rfl rfl hl.1 (Nat.le_of_ble_eq_true rfl) (dcs_get dec_law_18 31 rfl) ⟨Nat.le_of_ble_eq_true rfl, Nat.le_of_ble_eq_true rfl⟩) X w (fun H locs w => ?_)
  refine lv_aload_n X.1.hx X.1.hb (dcs_get dec_law_18 32 rfl) rfl (lv_at hl 2 rfl) ?_
  refine lv_aload_n X.1.hx X.1.hb (dcs_get dec_law_18 33 rfl) rfl (lv_at hl 0 rfl) ?_
  refine lv_iload_n X.1.hx X.1.hb (dcs_get dec_law_18 34 rfl) rfl (lv_at hl 3 rfl) ?_
  refine lv_iconst (v := (1 : Int32)) X.1.hx X.1.hb (dcs_get dec_law_18 35 rfl) (by decide) ?_
  refine lv_iadd X.1.hx X.1.hb (dcs_get dec_law_18 36 rfl) ?_
  obtain ⟨h316, hf⟩ := cG_some hf
  refine va_sld X.1.hx X.1.hb X.2.2.2.1 X.2.2.2.2.1 (Nat.not_le.mpr X.2.2.2.2.1) w.2.2 (inb_in h316) (dcs_get dec_law_18 37 rfl) ?_
  refine lv_aload_n X.1.hx X.1.hb (dcs_get dec_law_18 38 rfl) rfl (lv_at hl 0 rfl) ?_
  refine lv_iload_n X.1.hx X.1.hb (dcs_get dec_law_18 39 rfl) rfl (lv_at hl 3 rfl) ?_
  refine lv_iconst (v := (2 : Int32)) X.1.hx X.1.hb (dcs_get dec_law_19 0 rfl) (by decide) ?_
  refine lv_iadd X.1.hx X.1.hb (dcs_get dec_law_19 1 rfl) ?_
  obtain ⟨h317, hf⟩ := cG_some hf
  refine va_sld X.1.hx X.1.hb X.2.2.2.1 X.2.2.2.2.1 (Nat.not_le.mpr X.2.2.2.2.1) w.2.2 (inb_in h317) (dcs_get dec_law_19 2 rfl) ?_
  obtain ⟨v319, τ320, h318, hf⟩ := cC_some hf
  refine a_i2 (k_V (K := kM) (c0 := 0) (As := [.int (xs (i + (1 : Int32)).toNatClampNeg), .int (xs (i + (2 : Int32)).toNatClampNeg)]) (rest := [.int v314]) cls12 lb_X12_beginners lv_X12_beginners q_1555 (C_X12_beginners X.2.1.2.2.1 0 (xs (i + (1 : Int32)).toNatClampNeg) (xs (i + (2 : Int32)).toNatClampNeg) τ h318 ok12) ⟨Nat.le_of_ble_eq_true rfl, Nat.le_of_ble_eq_true rfl⟩ X.2.1 ⟨w.2.1, w.2.2⟩ (okr_in ok12).1 (okr_in ok12).2 rfl rfl hl.1 (Nat.le_of_ble_eq_true rfl) (dcs_get dec_law_19 3 rfl) ⟨Nat.le_of_ble_eq_true rfl, Nat.le_of_ble_eq_true rfl⟩) X w (fun H locs w => ?_)
  refine lv_icmp_eq (tgt := 1160) X.1.hx X.1.hb (dcs_get dec_law_19 4 rfl) (by decide) (fun hc => ?_) (fun hc => ?_)
  · rw [if_pos hc] at hf
    obtain ⟨v321, e_v321, hf⟩ := cL_some hf
    refine lv_iinc (v := v321) (lv' := [(3, .int v321), (0, .ref b), (1, .ref (ad1 0)), (2, .ref (ad2 0))]) X.1.hx X.1.hb (dcs_get dec_law_20 18 rfl) hl (k := 3) rfl (by rw [e_v321]; rfl) (by decide) rfl (fun ls hl => ?_)
    refine lv_goto (tgt := 18) X.1.hx X.1.hb (dcs_get dec_law_20 19 rfl) (by decide) ?_
    exact hb (v321, σ315, τ320) (Option.some.inj hf).symm _ _ _ w (lv_sub hl [1, 2, 3, 0] rfl)
  · rw [if_neg hc] at hf
    refine lv_iconst (v := (0 : Int32)) X.1.hx X.1.hb (dcs_get dec_law_19 5 rfl) (by decide) ?_
    exact absurd (hr _ (Option.some.inj hf).symm) (by decide)
set_option maxRecDepth 100000 in
set_option maxHeartbeats 8000000 in
theorem B_law_1091 {H : Heap} {locs : List Loc} {ls : Array Slot} {o : (Int32 × hSt × hSt) ⊕ Int32} (X : LC p s m meth c D ay ad1 ad2 b L xs) (i : Int32) (σ τ : hSt) (hf : F_law_1091 xs L i σ τ = some o) (hb : ∀ (v : Int32 × hSt × hSt), o = .inl v → ∀ (H : Heap) (locs : List Loc) (ls : Array Slot), WL D ay ad1 ad2 s v.2.1 v.2.2 H locs → lv_has ls 4 [(0, .ref b), (1, .ref (ad1 0)), (2, .ref (ad2 0)), (3, .int v.1)] → W p l e room_1 s m #[Value.ref b] below meth c H locs 293 37911 (lw_Z below #[Value.ref b] s) (F0 m 18 ls [])) (hr : ∀ x, o = .inr x → x = 1) (w : WL D ay ad1 ad2 s σ τ H locs) (hl : lv_has ls 4 [(0, .ref b), (1, .ref (ad1 0)), (2, .ref (ad2 0)), (3, .int i)]) : W p l e room_1 s m #[Value.ref b] below meth c H locs 293 37911 (lw_Z below #[Value.ref b] s) (F0 m 1091 ls []) := by
  unfold F_law_1091 at hf
  refine lv_aload_n X.1.hx X.1.hb (dcs_get dec_law_19 7 rfl) rfl (lv_at hl 1 rfl) ?_
  refine lv_aload_n X.1.hx X.1.hb (dcs_get dec_law_19 8 rfl) rfl (lv_at hl 0 rfl) ?_
  refine lv_iload_n X.1.hx X.1.hb (dcs_get dec_law_19 9 rfl) rfl (lv_at hl 3 rfl) ?_
  refine lv_iconst (v := (1 : Int32)) X.1.hx X.1.hb (dcs_get dec_law_19 10 rfl) (by decide) ?_
  refine lv_iadd X.1.hx X.1.hb (dcs_get dec_law_19 11 rfl) ?_
  obtain ⟨h322, hf⟩ := cG_some hf
  refine va_sld X.1.hx X.1.hb X.2.2.2.1 X.2.2.2.2.1 (Nat.not_le.mpr X.2.2.2.2.1) w.2.2 (inb_in h322) (dcs_get dec_law_19 12 rfl) ?_
  obtain ⟨v324, σ325, h323, hf⟩ := cC_some hf
  refine a_i1 (k_V (K := kC) (c0 := 0) (As := [.int (xs (i + (1 : Int32)).toNatClampNeg)]) (rest := []) cls11 lb_X11_hold lv_X11_hold q_972 (C_X11_hold X.1.2.2.1 0 (xs (i + (1 : Int32)).toNatClampNeg) σ h323 ok11) ⟨Nat.le_of_ble_eq_true rfl, Nat.le_of_ble_eq_true rfl⟩ X.1 ⟨w.1, w.2.2⟩ (okr_in ok11).1 (okr_in ok11).2 rfl rfl hl.1 (Nat.le_of_ble_eq_true rfl) (dcs_get dec_law_19 13 rfl) ⟨Nat.le_of_ble_eq_true rfl, Nat.le_of_ble_eq_true rfl⟩) X w (fun H locs w => ?_)
  refine lv_aload_n X.1.hx X.1.hb (dcs_get dec_law_19 14 rfl) rfl (lv_at hl 2 rfl) ?_
  refine lv_aload_n X.1.hx X.1.hb (dcs_get dec_law_19 15 rfl) rfl (lv_at hl 0 rfl) ?_
  refine lv_iload_n X.1.hx X.1.hb (dcs_get dec_law_19 16 rfl) rfl (lv_at hl 3 rfl) ?_
  refine lv_iconst (v := (1 : Int32)) X.1.hx X.1.hb (dcs_get dec_law_19 17 rfl) (by decide) ?_
  refine lv_iadd X.1.hx X.1.hb (dcs_get dec_law_19 18 rfl) ?_
  obtain ⟨h326, hf⟩ := cG_some hf
  refine va_sld X.1.hx X.1.hb X.2.2.2.1 X.2.2.2.2.1 (Nat.not_le.mpr X.2.2.2.2.1) w.2.2 (inb_in h326) (dcs_get dec_law_19 19 rfl) ?_
  obtain ⟨v328, τ329, h327, hf⟩ := cC_some hf
  refine a_i2 (k_V (K := kM) (c0 := 0) (As := [.int (xs (i + (1 : Int32)).toNatClampNeg)]) (rest := [.int v324]) cls12 lb_X12_hold lv_X12_hold q_1563 (C_X12_hold X.2.1.2.2.1 0 (xs (i + (1 : Int32)).toNatClampNeg) τ h327 ok12) ⟨Nat.le_of_ble_eq_true rfl, Nat.le_of_ble_eq_true rfl⟩ X.2.1 ⟨w.2.1, w.2.2⟩ (okr_in ok12).1 (okr_in ok12).2 rfl rfl hl.1 (Nat.le_of_ble_eq_true rfl) (dcs_get dec_law_19 20 rfl) ⟨Nat.le_of_ble_eq_true rfl, Nat.le_of_ble_eq_true rfl⟩) X w (fun H locs w => ?_)
  refine lv_icmp_eq (tgt := 1160) X.1.hx X.1.hb (dcs_get dec_law_19 21 rfl) (by decide) (fun hc => ?_) (fun hc => ?_)
  · rw [if_pos hc] at hf
    obtain ⟨v330, e_v330, hf⟩ := cL_some hf
    refine lv_iinc (v := v330) (lv' := [(3, .int v330), (0, .ref b), (1, .ref (ad1 0)), (2, .ref (ad2 0))]) X.1.hx X.1.hb (dcs_get dec_law_20 18 rfl) hl (k := 3) rfl (by rw [e_v330]; rfl) (by decide) rfl (fun ls hl => ?_)
    refine lv_goto (tgt := 18) X.1.hx X.1.hb (dcs_get dec_law_20 19 rfl) (by decide) ?_
    exact hb (v330, σ325, τ329) (Option.some.inj hf).symm _ _ _ w (lv_sub hl [1, 2, 3, 0] rfl)
  · rw [if_neg hc] at hf
    refine lv_iconst (v := (0 : Int32)) X.1.hx X.1.hb (dcs_get dec_law_19 22 rfl) (by decide) ?_
    exact absurd (hr _ (Option.some.inj hf).symm) (by decide)
set_option maxRecDepth 100000 in
set_option maxHeartbeats 8000000 in
theorem B_law_1114 {H : Heap} {locs : List Loc} {ls : Array Slot} {o : (Int32 × hSt × hSt) ⊕ Int32} (X : LC p s m meth c D ay ad1 ad2 b L xs) (i : Int32) (σ τ : hSt) (hf : F_law_1114 xs L i σ τ = some o) (hb : ∀ (v : Int32 × hSt × hSt), o = .inl v → ∀ (H : Heap) (locs : List Loc) (ls : Array Slot), WL D ay ad1 ad2 s v.2.1 v.2.2 H locs → lv_has ls 4 [(0, .ref b), (1, .ref (ad1 0)), (2, .ref (ad2 0)), (3, .int v.1)] → W p l e room_1 s m #[Value.ref b] below meth c H locs 293 37911 (lw_Z below #[Value.ref b] s) (F0 m 18 ls [])) (hr : ∀ x, o = .inr x → x = 1) (w : WL D ay ad1 ad2 s σ τ H locs) (hl : lv_has ls 4 [(0, .ref b), (1, .ref (ad1 0)), (2, .ref (ad2 0)), (3, .int i)]) : W p l e room_1 s m #[Value.ref b] below meth c H locs 293 37911 (lw_Z below #[Value.ref b] s) (F0 m 1114 ls []) := by
  unfold F_law_1114 at hf
  refine lv_aload_n X.1.hx X.1.hb (dcs_get dec_law_19 24 rfl) rfl (lv_at hl 1 rfl) ?_
  refine lv_aload_n X.1.hx X.1.hb (dcs_get dec_law_19 25 rfl) rfl (lv_at hl 0 rfl) ?_
  refine lv_iload_n X.1.hx X.1.hb (dcs_get dec_law_19 26 rfl) rfl (lv_at hl 3 rfl) ?_
  refine lv_iconst (v := (1 : Int32)) X.1.hx X.1.hb (dcs_get dec_law_19 27 rfl) (by decide) ?_
  refine lv_iadd X.1.hx X.1.hb (dcs_get dec_law_19 28 rfl) ?_
  obtain ⟨h331, hf⟩ := cG_some hf
  refine va_sld X.1.hx X.1.hb X.2.2.2.1 X.2.2.2.2.1 (Nat.not_le.mpr X.2.2.2.2.1) w.2.2 (inb_in h331) (dcs_get dec_law_19 29 rfl) ?_
  obtain ⟨v333, σ334, h332, hf⟩ := cC_some hf
  refine a_i1 (k_V (K := kC) (c0 := 0) (As := [.int (xs (i + (1 : Int32)).toNatClampNeg)]) (rest := []) cls11 lb_X11_restore lv_X11_restore q_976 (C_X11_restore X.1.2.2.1 0 (xs (i + (1 : Int32)).toNatClampNeg) σ h332 ok11) ⟨Nat.le_of_ble_eq_true rfl, Nat.le_of_ble_eq_true rfl⟩ X.1 ⟨w.1, w.2.2⟩ (okr_in ok11).1 (okr_in ok11).2 rfl rfl hl.1 (Nat.le_of_ble_eq_true rfl) (dcs_get dec_law_19 30 rfl) ⟨Nat.le_of_ble_eq_true rfl, Nat.le_of_ble_eq_true rfl⟩) X w (fun H locs w => ?_)
  refine lv_aload_n X.1.hx X.1.hb (dcs_get dec_law_19 31 rfl) rfl (lv_at hl 2 rfl) ?_
  refine lv_aload_n X.1.hx X.1.hb (dcs_get dec_law_19 32 rfl) rfl (lv_at hl 0 rfl) ?_
  refine lv_iload_n X.1.hx X.1.hb (dcs_get dec_law_19 33 rfl) rfl (lv_at hl 3 rfl) ?_
  refine lv_iconst (v := (1 : Int32)) X.1.hx X.1.hb (dcs_get dec_law_19 34 rfl) (by decide) ?_
  refine lv_iadd X.1.hx X.1.hb (dcs_get dec_law_19 35 rfl) ?_
  obtain ⟨h335, hf⟩ := cG_some hf
  refine va_sld X.1.hx X.1.hb X.2.2.2.1 X.2.2.2.2.1 (Nat.not_le.mpr X.2.2.2.2.1) w.2.2 (inb_in h335) (dcs_get dec_law_19 36 rfl) ?_
  obtain ⟨v337, τ338, h336, hf⟩ := cC_some hf
  refine a_i2 (k_V (K := kM) (c0 := 0) (As := [.int (xs (i + (1 : Int32)).toNatClampNeg)]) (rest := [.int v333]) cls12 lb_X12_restore lv_X12_restore q_1567 (C_X12_restore X.2.1.2.2.1 0 (xs (i + (1 : Int32)).toNatClampNeg) τ h336 ok12) ⟨Nat.le_of_ble_eq_true rfl, Nat.le_of_ble_eq_true rfl⟩ X.2.1 ⟨w.2.1, w.2.2⟩ (okr_in ok12).1 (okr_in ok12).2 rfl rfl hl.1 (Nat.le_of_ble_eq_true rfl) (dcs_get dec_law_19 37 rfl) ⟨Nat.le_of_ble_eq_true rfl, Nat.le_of_ble_eq_true rfl⟩) X w (fun H locs w => ?_)
  refine lv_icmp_eq (tgt := 1160) X.1.hx X.1.hb (dcs_get dec_law_19 38 rfl) (by decide) (fun hc => ?_) (fun hc => ?_)
  · rw [if_pos hc] at hf
    obtain ⟨v339, e_v339, hf⟩ := cL_some hf
    refine lv_iinc (v := v339) (lv' := [(3, .int v339), (0, .ref b), (1, .ref (ad1 0)), (2, .ref (ad2 0))]) X.1.hx X.1.hb (dcs_get dec_law_20 18 rfl) hl (k := 3) rfl (by rw [e_v339]; rfl) (by decide) rfl (fun ls hl => ?_)
    refine lv_goto (tgt := 18) X.1.hx X.1.hb (dcs_get dec_law_20 19 rfl) (by decide) ?_
    exact hb (v339, σ334, τ338) (Option.some.inj hf).symm _ _ _ w (lv_sub hl [1, 2, 3, 0] rfl)
  · rw [if_neg hc] at hf
    refine lv_iconst (v := (0 : Int32)) X.1.hx X.1.hb (dcs_get dec_law_19 39 rfl) (by decide) ?_
    exact absurd (hr _ (Option.some.inj hf).symm) (by decide)
set_option maxRecDepth 100000 in
set_option maxHeartbeats 8000000 in
theorem B_law_1137 {H : Heap} {locs : List Loc} {ls : Array Slot} {o : (Int32 × hSt × hSt) ⊕ Int32} (X : LC p s m meth c D ay ad1 ad2 b L xs) (i : Int32) (σ τ : hSt) (hf : F_law_1137 xs L i σ τ = some o) (hb : ∀ (v : Int32 × hSt × hSt), o = .inl v → ∀ (H : Heap) (locs : List Loc) (ls : Array Slot), WL D ay ad1 ad2 s v.2.1 v.2.2 H locs → lv_has ls 4 [(0, .ref b), (1, .ref (ad1 0)), (2, .ref (ad2 0)), (3, .int v.1)] → W p l e room_1 s m #[Value.ref b] below meth c H locs 293 37911 (lw_Z below #[Value.ref b] s) (F0 m 18 ls [])) (hr : ∀ x, o = .inr x → x = 1) (w : WL D ay ad1 ad2 s σ τ H locs) (hl : lv_has ls 4 [(0, .ref b), (1, .ref (ad1 0)), (2, .ref (ad2 0)), (3, .int i)]) : W p l e room_1 s m #[Value.ref b] below meth c H locs 293 37911 (lw_Z below #[Value.ref b] s) (F0 m 1137 ls []) := by
  unfold F_law_1137 at hf
  refine lv_aload_n X.1.hx X.1.hb (dcs_get dec_law_20 1 rfl) rfl (lv_at hl 1 rfl) ?_
  refine lv_aload_n X.1.hx X.1.hb (dcs_get dec_law_20 2 rfl) rfl (lv_at hl 0 rfl) ?_
  refine lv_iload_n X.1.hx X.1.hb (dcs_get dec_law_20 3 rfl) rfl (lv_at hl 3 rfl) ?_
  refine lv_iconst (v := (1 : Int32)) X.1.hx X.1.hb (dcs_get dec_law_20 4 rfl) (by decide) ?_
  refine lv_iadd X.1.hx X.1.hb (dcs_get dec_law_20 5 rfl) ?_
  obtain ⟨h340, hf⟩ := cG_some hf
  refine va_sld X.1.hx X.1.hb X.2.2.2.1 X.2.2.2.2.1 (Nat.not_le.mpr X.2.2.2.2.1) w.2.2 (inb_in h340) (dcs_get dec_law_20 6 rfl) ?_
  obtain ⟨v342, h341, hf⟩ := cB_some hf
  refine a_i1 (k_V (K := kC) (c0 := 0) (As := [.int (xs (i + (1 : Int32)).toNatClampNeg)]) (rest := []) cls11 lb_X11_count lv_X11_count q_980 (C_X11_count X.1.2.2.1 0 (xs (i + (1 : Int32)).toNatClampNeg) σ h341 ok11) ⟨Nat.le_of_ble_eq_true rfl, Nat.le_of_ble_eq_true rfl⟩ X.1 ⟨w.1, w.2.2⟩ (okr_in ok11).1 (okr_in ok11).2 rfl rfl hl.1 (Nat.le_of_ble_eq_true rfl) (dcs_get dec_law_20 7 rfl) ⟨Nat.le_of_ble_eq_true rfl, Nat.le_of_ble_eq_true rfl⟩) X w (fun H locs w => ?_)
  refine lv_aload_n X.1.hx X.1.hb (dcs_get dec_law_20 8 rfl) rfl (lv_at hl 2 rfl) ?_
  refine lv_aload_n X.1.hx X.1.hb (dcs_get dec_law_20 9 rfl) rfl (lv_at hl 0 rfl) ?_
  refine lv_iload_n X.1.hx X.1.hb (dcs_get dec_law_20 10 rfl) rfl (lv_at hl 3 rfl) ?_
  refine lv_iconst (v := (1 : Int32)) X.1.hx X.1.hb (dcs_get dec_law_20 11 rfl) (by decide) ?_
  refine lv_iadd X.1.hx X.1.hb (dcs_get dec_law_20 12 rfl) ?_
  obtain ⟨h343, hf⟩ := cG_some hf
  refine va_sld X.1.hx X.1.hb X.2.2.2.1 X.2.2.2.2.1 (Nat.not_le.mpr X.2.2.2.2.1) w.2.2 (inb_in h343) (dcs_get dec_law_20 13 rfl) ?_
  obtain ⟨v345, h344, hf⟩ := cB_some hf
  refine a_i2 (k_V (K := kM) (c0 := 0) (As := [.int (xs (i + (1 : Int32)).toNatClampNeg)]) (rest := [.int v342]) cls12 lb_X12_count lv_X12_count q_1571 (C_X12_count X.2.1.2.2.1 0 (xs (i + (1 : Int32)).toNatClampNeg) τ h344 ok12) ⟨Nat.le_of_ble_eq_true rfl, Nat.le_of_ble_eq_true rfl⟩ X.2.1 ⟨w.2.1, w.2.2⟩ (okr_in ok12).1 (okr_in ok12).2 rfl rfl hl.1 (Nat.le_of_ble_eq_true rfl) (dcs_get dec_law_20 14 rfl) ⟨Nat.le_of_ble_eq_true rfl, Nat.le_of_ble_eq_true rfl⟩) X w (fun H locs w => ?_)
  refine lv_icmp_eq (tgt := 1160) X.1.hx X.1.hb (dcs_get dec_law_20 15 rfl) (by decide) (fun hc => ?_) (fun hc => ?_)
  · rw [if_pos hc] at hf
    obtain ⟨v346, e_v346, hf⟩ := cL_some hf
    refine lv_iinc (v := v346) (lv' := [(3, .int v346), (0, .ref b), (1, .ref (ad1 0)), (2, .ref (ad2 0))]) X.1.hx X.1.hb (dcs_get dec_law_20 18 rfl) hl (k := 3) rfl (by rw [e_v346]; rfl) (by decide) rfl (fun ls hl => ?_)
    refine lv_goto (tgt := 18) X.1.hx X.1.hb (dcs_get dec_law_20 19 rfl) (by decide) ?_
    exact hb (v346, σ, τ) (Option.some.inj hf).symm _ _ _ w (lv_sub hl [1, 2, 3, 0] rfl)
  · rw [if_neg hc] at hf
    refine lv_iconst (v := (0 : Int32)) X.1.hx X.1.hb (dcs_get dec_law_20 16 rfl) (by decide) ?_
    exact absurd (hr _ (Option.some.inj hf).symm) (by decide)
set_option maxRecDepth 100000 in
set_option maxHeartbeats 8000000 in
theorem B_law_18 {H : Heap} {locs : List Loc} {ls : Array Slot} {o : (Int32 × hSt × hSt) ⊕ Int32} (X : LC p s m meth c D ay ad1 ad2 b L xs) (i : Int32) (σ τ : hSt) (hf : F_law_18 xs L i σ τ = some o) (hb : ∀ (v : Int32 × hSt × hSt), o = .inl v → ∀ (H : Heap) (locs : List Loc) (ls : Array Slot), WL D ay ad1 ad2 s v.2.1 v.2.2 H locs → lv_has ls 4 [(0, .ref b), (1, .ref (ad1 0)), (2, .ref (ad2 0)), (3, .int v.1)] → W p l e room_1 s m #[Value.ref b] below meth c H locs 293 37911 (lw_Z below #[Value.ref b] s) (F0 m 18 ls [])) (hr : ∀ x, o = .inr x → x = 1) (w : WL D ay ad1 ad2 s σ τ H locs) (hl : lv_has ls 4 [(0, .ref b), (1, .ref (ad1 0)), (2, .ref (ad2 0)), (3, .int i)]) : W p l e room_1 s m #[Value.ref b] below meth c H locs 293 37911 (lw_Z below #[Value.ref b] s) (F0 m 18 ls []) := by
  unfold F_law_18 at hf
  refine lv_iload_n X.1.hx X.1.hb (dcs_get dec_law_0 10 rfl) rfl (lv_at hl 3 rfl) ?_
  refine lv_aload_n X.1.hx X.1.hb (dcs_get dec_law_0 11 rfl) rfl (lv_at hl 0 rfl) ?_
  refine va_slen X.1.hx X.1.hb X.2.2.2.1 X.2.2.2.2.1 (Nat.not_le.mpr X.2.2.2.2.1) w.2.2 (dcs_get dec_law_0 12 rfl) ?_
  refine lv_bipush (v := (6 : Int32)) X.1.hx X.1.hb (dcs_get dec_law_0 13 rfl) (by decide) ?_
  refine lv_isub X.1.hx X.1.hb (dcs_get dec_law_0 14 rfl) ?_
  refine lv_icmp_gt (tgt := 1166) X.1.hx X.1.hb (dcs_get dec_law_0 15 rfl) (by decide) (fun hc => ?_) (fun hc => ?_)
  · rw [if_pos hc] at hf
    refine lv_iconst (v := (1 : Int32)) X.1.hx X.1.hb (dcs_get dec_law_20 20 rfl) (by decide) ?_
    refine va_forget (fun q hq => w.2.2.2.2 q hq) ?_
    refine W.widen (k := 600000) (n := 7302250) (Nat.le_of_ble_eq_true rfl) (Nat.le_of_ble_eq_true rfl) ?_
    exact lw_ret X.1.hx X.1.hb X.2.2.2.2.2.1 X.2.2.2.2.2.2 (dcs_get dec_law_20 21 rfl)
  · rw [if_neg hc] at hf
    refine lv_aload_n X.1.hx X.1.hb (dcs_get dec_law_0 16 rfl) rfl (lv_at hl 0 rfl) ?_
    refine lv_iload_n X.1.hx X.1.hb (dcs_get dec_law_0 17 rfl) rfl (lv_at hl 3 rfl) ?_
    obtain ⟨h347, hf⟩ := cG_some hf
    refine va_sld X.1.hx X.1.hb X.2.2.2.1 X.2.2.2.2.1 (Nat.not_le.mpr X.2.2.2.2.1) w.2.2 (inb_in h347) (dcs_get dec_law_0 18 rfl) ?_
    refine lv_bipush (v := (31 : Int32)) X.1.hx X.1.hb (dcs_get dec_law_0 19 rfl) (by decide) ?_
    refine lv_iand X.1.hx X.1.hb (dcs_get dec_law_0 20 rfl) ?_
    obtain ⟨v348, e_v348, hf⟩ := cL_some hf
    refine r_topi e_v348 ?_
    by_cases hc0 : v348 = (0 : Int32)
    · rw [if_pos hc0] at hf
      refine r_tIn (k := (0 : Int32)) (tgt := 168) X.1.hx X.1.hb (dcs_get dec_law_0 21 rfl) hc0 (by decide) rfl (by decide) ?_
      refine lv_aload_n X.1.hx X.1.hb (dcs_get dec_law_0 22 rfl) rfl (lv_at hl 1 rfl) ?_
      refine lv_aload_n X.1.hx X.1.hb (dcs_get dec_law_0 23 rfl) rfl (lv_at hl 0 rfl) ?_
      refine lv_iload_n X.1.hx X.1.hb (dcs_get dec_law_0 24 rfl) rfl (lv_at hl 3 rfl) ?_
      refine lv_iconst (v := (1 : Int32)) X.1.hx X.1.hb (dcs_get dec_law_0 25 rfl) (by decide) ?_
      refine lv_iadd X.1.hx X.1.hb (dcs_get dec_law_0 26 rfl) ?_
      obtain ⟨h349, hf⟩ := cG_some hf
      refine va_sld X.1.hx X.1.hb X.2.2.2.1 X.2.2.2.2.1 (Nat.not_le.mpr X.2.2.2.2.1) w.2.2 (inb_in h349) (dcs_get dec_law_0 27 rfl) ?_
      refine lv_aload_n X.1.hx X.1.hb (dcs_get dec_law_0 28 rfl) rfl (lv_at hl 0 rfl) ?_
      refine lv_iload_n X.1.hx X.1.hb (dcs_get dec_law_0 29 rfl) rfl (lv_at hl 3 rfl) ?_
      refine lv_iconst (v := (2 : Int32)) X.1.hx X.1.hb (dcs_get dec_law_0 30 rfl) (by decide) ?_
      refine lv_iadd X.1.hx X.1.hb (dcs_get dec_law_0 31 rfl) ?_
      obtain ⟨h350, hf⟩ := cG_some hf
      refine va_sld X.1.hx X.1.hb X.2.2.2.1 X.2.2.2.2.1 (Nat.not_le.mpr X.2.2.2.2.1) w.2.2 (inb_in h350) (dcs_get dec_law_0 32 rfl) ?_
      refine lv_aload_n X.1.hx X.1.hb (dcs_get dec_law_0 33 rfl) rfl (lv_at hl 0 rfl) ?_
      refine lv_iload_n X.1.hx X.1.hb (dcs_get dec_law_0 34 rfl) rfl (lv_at hl 3 rfl) ?_
      refine lv_iconst (v := (3 : Int32)) X.1.hx X.1.hb (dcs_get dec_law_0 35 rfl) (by decide) ?_
      refine lv_iadd X.1.hx X.1.hb (dcs_get dec_law_0 36 rfl) ?_
      obtain ⟨h351, hf⟩ := cG_some hf
      refine va_sld X.1.hx X.1.hb X.2.2.2.1 X.2.2.2.2.1 (Nat.not_le.mpr X.2.2.2.2.1) w.2.2 (inb_in h351) (dcs_get dec_law_0 37 rfl) ?_
      refine lv_aload_n X.1.hx X.1.hb (dcs_get dec_law_0 38 rfl) rfl (lv_at hl 0 rfl) ?_
      refine lv_iload_n X.1.hx X.1.hb (dcs_get dec_law_0 39 rfl) rfl (lv_at hl 3 rfl) ?_
      refine lv_iconst (v := (4 : Int32)) X.1.hx X.1.hb (dcs_get dec_law_1 0 rfl) (by decide) ?_
      refine lv_iadd X.1.hx X.1.hb (dcs_get dec_law_1 1 rfl) ?_
      obtain ⟨h352, hf⟩ := cG_some hf
      refine va_sld X.1.hx X.1.hb X.2.2.2.1 X.2.2.2.2.1 (Nat.not_le.mpr X.2.2.2.2.1) w.2.2 (inb_in h352) (dcs_get dec_law_1 2 rfl) ?_
      refine lv_aload_n X.1.hx X.1.hb (dcs_get dec_law_1 3 rfl) rfl (lv_at hl 0 rfl) ?_
      refine lv_iload_n X.1.hx X.1.hb (dcs_get dec_law_1 4 rfl) rfl (lv_at hl 3 rfl) ?_
      refine lv_iconst (v := (5 : Int32)) X.1.hx X.1.hb (dcs_get dec_law_1 5 rfl) (by decide) ?_
      refine lv_iadd X.1.hx X.1.hb (dcs_get dec_law_1 6 rfl) ?_
      obtain ⟨h353, hf⟩ := cG_some hf
      refine va_sld X.1.hx X.1.hb X.2.2.2.1 X.2.2.2.2.1 (Nat.not_le.mpr X.2.2.2.2.1) w.2.2 (inb_in h353) (dcs_get dec_law_1 7 rfl) ?_
      obtain ⟨v355, σ356, h354, hf⟩ := cC_some hf
      refine a_i1 (k_V (K := kC) (c0 := 0) (As := [.int (xs (i + (1 : Int32)).toNatClampNeg), .int (xs (i + (2 : Int32)).toNatClampNeg), .int (xs (i + (3 : Int32)).toNatClampNeg), .int (xs (i + (4 : Int32)).toNatClampNeg), .int (xs (i + (5 : Int32)).toNatClampNeg)]) (rest := []) cls11 lb_X11_feed lv_X11_feed q_431 (C_X11_feed X.1.2.2.1 0 (xs (i + (1 : Int32)).toNatClampNeg) (xs (i + (2 : Int32)).toNatClampNeg) (xs (i + (3 : Int32)).toNatClampNeg) (xs (i + (4 : Int32)).toNatClampNeg) (xs (i + (5 : Int32)).toNatClampNeg) σ h354 ok11) ⟨Nat.le_of_ble_eq_true rfl, Nat.le_of_ble_eq_true rfl⟩ X.1 ⟨w.1, w.2.2⟩ (okr_in ok11).1 (okr_in ok11).2 rfl rfl hl.1 (Nat.le_of_ble_eq_true rfl) (dcs_get dec_law_1 8 rfl) ⟨Nat.le_of_ble_eq_true rfl, Nat.le_of_ble_eq_true rfl⟩) X w (fun H locs w => ?_)
      refine lv_aload_n X.1.hx X.1.hb (dcs_get dec_law_1 9 rfl) rfl (lv_at hl 2 rfl) ?_
      refine lv_aload_n X.1.hx X.1.hb (dcs_get dec_law_1 10 rfl) rfl (lv_at hl 0 rfl) ?_
      refine lv_iload_n X.1.hx X.1.hb (dcs_get dec_law_1 11 rfl) rfl (lv_at hl 3 rfl) ?_
      refine lv_iconst (v := (1 : Int32)) X.1.hx X.1.hb (dcs_get dec_law_1 12 rfl) (by decide) ?_
      refine lv_iadd X.1.hx X.1.hb (dcs_get dec_law_1 13 rfl) ?_
      obtain ⟨h357, hf⟩ := cG_some hf
      refine va_sld X.1.hx X.1.hb X.2.2.2.1 X.2.2.2.2.1 (Nat.not_le.mpr X.2.2.2.2.1) w.2.2 (inb_in h357) (dcs_get dec_law_1 14 rfl) ?_
      refine lv_aload_n X.1.hx X.1.hb (dcs_get dec_law_1 15 rfl) rfl (lv_at hl 0 rfl) ?_
      refine lv_iload_n X.1.hx X.1.hb (dcs_get dec_law_1 16 rfl) rfl (lv_at hl 3 rfl) ?_
      refine lv_iconst (v := (2 : Int32)) X.1.hx X.1.hb (dcs_get dec_law_1 17 rfl) (by decide) ?_
      refine lv_iadd X.1.hx X.1.hb (dcs_get dec_law_1 18 rfl) ?_
      obtain ⟨h358, hf⟩ := cG_some hf
      refine va_sld X.1.hx X.1.hb X.2.2.2.1 X.2.2.2.2.1 (Nat.not_le.mpr X.2.2.2.2.1) w.2.2 (inb_in h358) (dcs_get dec_law_1 19 rfl) ?_
      refine lv_aload_n X.1.hx X.1.hb (dcs_get dec_law_1 20 rfl) rfl (lv_at hl 0 rfl) ?_
      refine lv_iload_n X.1.hx X.1.hb (dcs_get dec_law_1 21 rfl) rfl (lv_at hl 3 rfl) ?_
      refine lv_iconst (v := (3 : Int32)) X.1.hx X.1.hb (dcs_get dec_law_1 22 rfl) (by decide) ?_
      refine lv_iadd X.1.hx X.1.hb (dcs_get dec_law_1 23 rfl) ?_
      obtain ⟨h359, hf⟩ := cG_some hf
      refine va_sld X.1.hx X.1.hb X.2.2.2.1 X.2.2.2.2.1 (Nat.not_le.mpr X.2.2.2.2.1) w.2.2 (inb_in h359) (dcs_get dec_law_1 24 rfl) ?_
      refine lv_aload_n X.1.hx X.1.hb (dcs_get dec_law_1 25 rfl) rfl (lv_at hl 0 rfl) ?_
      refine lv_iload_n X.1.hx X.1.hb (dcs_get dec_law_1 26 rfl) rfl (lv_at hl 3 rfl) ?_
      refine lv_iconst (v := (4 : Int32)) X.1.hx X.1.hb (dcs_get dec_law_1 27 rfl) (by decide) ?_
      refine lv_iadd X.1.hx X.1.hb (dcs_get dec_law_1 28 rfl) ?_
      obtain ⟨h360, hf⟩ := cG_some hf
      refine va_sld X.1.hx X.1.hb X.2.2.2.1 X.2.2.2.2.1 (Nat.not_le.mpr X.2.2.2.2.1) w.2.2 (inb_in h360) (dcs_get dec_law_1 29 rfl) ?_
      refine lv_aload_n X.1.hx X.1.hb (dcs_get dec_law_1 30 rfl) rfl (lv_at hl 0 rfl) ?_
      refine lv_iload_n X.1.hx X.1.hb (dcs_get dec_law_1 31 rfl) rfl (lv_at hl 3 rfl) ?_
      refine lv_iconst (v := (5 : Int32)) X.1.hx X.1.hb (dcs_get dec_law_1 32 rfl) (by decide) ?_
      refine lv_iadd X.1.hx X.1.hb (dcs_get dec_law_1 33 rfl) ?_
      obtain ⟨h361, hf⟩ := cG_some hf
      refine va_sld X.1.hx X.1.hb X.2.2.2.1 X.2.2.2.2.1 (Nat.not_le.mpr X.2.2.2.2.1) w.2.2 (inb_in h361) (dcs_get dec_law_1 34 rfl) ?_
      obtain ⟨v363, τ364, h362, hf⟩ := cC_some hf
      refine a_i2 (k_V (K := kM) (c0 := 0) (As := [.int (xs (i + (1 : Int32)).toNatClampNeg), .int (xs (i + (2 : Int32)).toNatClampNeg), .int (xs (i + (3 : Int32)).toNatClampNeg), .int (xs (i + (4 : Int32)).toNatClampNeg), .int (xs (i + (5 : Int32)).toNatClampNeg)]) (rest := [.int v355]) cls12 lb_X12_feed lv_X12_feed q_1216 (C_X12_feed X.2.1.2.2.1 0 (xs (i + (1 : Int32)).toNatClampNeg) (xs (i + (2 : Int32)).toNatClampNeg) (xs (i + (3 : Int32)).toNatClampNeg) (xs (i + (4 : Int32)).toNatClampNeg) (xs (i + (5 : Int32)).toNatClampNeg) τ h362 ok12) ⟨Nat.le_of_ble_eq_true rfl, Nat.le_of_ble_eq_true rfl⟩ X.2.1 ⟨w.2.1, w.2.2⟩ (okr_in ok12).1 (okr_in ok12).2 rfl rfl hl.1 (Nat.le_of_ble_eq_true rfl) (dcs_get dec_law_1 35 rfl) ⟨Nat.le_of_ble_eq_true rfl, Nat.le_of_ble_eq_true rfl⟩) X w (fun H locs w => ?_)
      refine lv_icmp_eq (tgt := 1160) X.1.hx X.1.hb (dcs_get dec_law_1 36 rfl) (by decide) (fun hc => ?_) (fun hc => ?_)
      · rw [if_pos hc] at hf
        obtain ⟨v365, e_v365, hf⟩ := cL_some hf
        refine lv_iinc (v := v365) (lv' := [(3, .int v365), (0, .ref b), (1, .ref (ad1 0)), (2, .ref (ad2 0))]) X.1.hx X.1.hb (dcs_get dec_law_20 18 rfl) hl (k := 3) rfl (by rw [e_v365]; rfl) (by decide) rfl (fun ls hl => ?_)
        refine lv_goto (tgt := 18) X.1.hx X.1.hb (dcs_get dec_law_20 19 rfl) (by decide) ?_
        exact hb (v365, σ356, τ364) (Option.some.inj hf).symm _ _ _ w (lv_sub hl [1, 2, 3, 0] rfl)
      · rw [if_neg hc] at hf
        refine lv_iconst (v := (0 : Int32)) X.1.hx X.1.hb (dcs_get dec_law_1 37 rfl) (by decide) ?_
        exact absurd (hr _ (Option.some.inj hf).symm) (by decide)
    rw [if_neg hc0] at hf
    by_cases hc1 : v348 = (1 : Int32)
    · rw [if_pos hc1] at hf
      refine r_tIn (k := (1 : Int32)) (tgt := 231) X.1.hx X.1.hb (dcs_get dec_law_0 21 rfl) hc1 (by decide) rfl (by decide) ?_
      refine lv_aload_n X.1.hx X.1.hb (dcs_get dec_law_1 39 rfl) rfl (lv_at hl 1 rfl) ?_
      refine lv_aload_n X.1.hx X.1.hb (dcs_get dec_law_2 0 rfl) rfl (lv_at hl 0 rfl) ?_
      refine lv_iload_n X.1.hx X.1.hb (dcs_get dec_law_2 1 rfl) rfl (lv_at hl 3 rfl) ?_
      refine lv_iconst (v := (1 : Int32)) X.1.hx X.1.hb (dcs_get dec_law_2 2 rfl) (by decide) ?_
      refine lv_iadd X.1.hx X.1.hb (dcs_get dec_law_2 3 rfl) ?_
      obtain ⟨h366, hf⟩ := cG_some hf
      refine va_sld X.1.hx X.1.hb X.2.2.2.1 X.2.2.2.2.1 (Nat.not_le.mpr X.2.2.2.2.1) w.2.2 (inb_in h366) (dcs_get dec_law_2 4 rfl) ?_
      obtain ⟨v368, σ369, h367, hf⟩ := cC_some hf
      refine a_i1 (k_V (K := kC) (c0 := 0) (As := [.int (xs (i + (1 : Int32)).toNatClampNeg)]) (rest := []) cls11 lb_X11_back lv_X11_back q_439 (C_X11_back X.1.2.2.1 0 (xs (i + (1 : Int32)).toNatClampNeg) σ h367 ok11) ⟨Nat.le_of_ble_eq_true rfl, Nat.le_of_ble_eq_true rfl⟩ X.1 ⟨w.1, w.2.2⟩ (okr_in ok11).1 (okr_in ok11).2 rfl rfl hl.1 (Nat.le_of_ble_eq_true rfl) (dcs_get dec_law_2 5 rfl) ⟨Nat.le_of_ble_eq_true rfl, Nat.le_of_ble_eq_true rfl⟩) X w (fun H locs w => ?_)
      refine lv_aload_n X.1.hx X.1.hb (dcs_get dec_law_2 6 rfl) rfl (lv_at hl 2 rfl) ?_
      refine lv_aload_n X.1.hx X.1.hb (dcs_get dec_law_2 7 rfl) rfl (lv_at hl 0 rfl) ?_
      refine lv_iload_n X.1.hx X.1.hb (dcs_get dec_law_2 8 rfl) rfl (lv_at hl 3 rfl) ?_
      refine lv_iconst (v := (1 : Int32)) X.1.hx X.1.hb (dcs_get dec_law_2 9 rfl) (by decide) ?_
      refine lv_iadd X.1.hx X.1.hb (dcs_get dec_law_2 10 rfl) ?_
      obtain ⟨h370, hf⟩ := cG_some hf
      refine va_sld X.1.hx X.1.hb X.2.2.2.1 X.2.2.2.2.1 (Nat.not_le.mpr X.2.2.2.2.1) w.2.2 (inb_in h370) (dcs_get dec_law_2 11 rfl) ?_
      obtain ⟨v372, τ373, h371, hf⟩ := cC_some hf
      refine a_i2 (k_V (K := kM) (c0 := 0) (As := [.int (xs (i + (1 : Int32)).toNatClampNeg)]) (rest := [.int v368]) cls12 lb_X12_back lv_X12_back q_1224 (C_X12_back X.2.1.2.2.1 0 (xs (i + (1 : Int32)).toNatClampNeg) τ h371 ok12) ⟨Nat.le_of_ble_eq_true rfl, Nat.le_of_ble_eq_true rfl⟩ X.2.1 ⟨w.2.1, w.2.2⟩ (okr_in ok12).1 (okr_in ok12).2 rfl rfl hl.1 (Nat.le_of_ble_eq_true rfl) (dcs_get dec_law_2 12 rfl) ⟨Nat.le_of_ble_eq_true rfl, Nat.le_of_ble_eq_true rfl⟩) X w (fun H locs w => ?_)
      refine lv_icmp_eq (tgt := 1160) X.1.hx X.1.hb (dcs_get dec_law_2 13 rfl) (by decide) (fun hc => ?_) (fun hc => ?_)
      · rw [if_pos hc] at hf
        obtain ⟨v374, e_v374, hf⟩ := cL_some hf
        refine lv_iinc (v := v374) (lv' := [(3, .int v374), (0, .ref b), (1, .ref (ad1 0)), (2, .ref (ad2 0))]) X.1.hx X.1.hb (dcs_get dec_law_20 18 rfl) hl (k := 3) rfl (by rw [e_v374]; rfl) (by decide) rfl (fun ls hl => ?_)
        refine lv_goto (tgt := 18) X.1.hx X.1.hb (dcs_get dec_law_20 19 rfl) (by decide) ?_
        exact hb (v374, σ369, τ373) (Option.some.inj hf).symm _ _ _ w (lv_sub hl [1, 2, 3, 0] rfl)
      · rw [if_neg hc] at hf
        refine lv_iconst (v := (0 : Int32)) X.1.hx X.1.hb (dcs_get dec_law_2 14 rfl) (by decide) ?_
        exact absurd (hr _ (Option.some.inj hf).symm) (by decide)
    rw [if_neg hc1] at hf
    by_cases hc2 : v348 = (2 : Int32)
    · rw [if_pos hc2] at hf
      refine r_tIn (k := (2 : Int32)) (tgt := 254) X.1.hx X.1.hb (dcs_get dec_law_0 21 rfl) hc2 (by decide) rfl (by decide) ?_
      refine lv_aload_n X.1.hx X.1.hb (dcs_get dec_law_2 16 rfl) rfl (lv_at hl 1 rfl) ?_
      obtain ⟨v376, σ377, h375, hf⟩ := cC_some hf
      refine a_i1 (k_V (K := kC) (c0 := 0) (As := []) (rest := []) cls11 lb_X11_read lv_X11_read q_443 (C_X11_read X.1.2.2.1 0  σ h375 ok11) ⟨Nat.le_of_ble_eq_true rfl, Nat.le_of_ble_eq_true rfl⟩ X.1 ⟨w.1, w.2.2⟩ (okr_in ok11).1 (okr_in ok11).2 rfl rfl hl.1 (Nat.le_of_ble_eq_true rfl) (dcs_get dec_law_2 17 rfl) ⟨Nat.le_of_ble_eq_true rfl, Nat.le_of_ble_eq_true rfl⟩) X w (fun H locs w => ?_)
      refine lv_aload_n X.1.hx X.1.hb (dcs_get dec_law_2 18 rfl) rfl (lv_at hl 2 rfl) ?_
      obtain ⟨v379, τ380, h378, hf⟩ := cC_some hf
      refine a_i2 (k_V (K := kM) (c0 := 0) (As := []) (rest := [.int v376]) cls12 lb_X12_read lv_X12_read q_1228 (C_X12_read X.2.1.2.2.1 0  τ h378 ok12) ⟨Nat.le_of_ble_eq_true rfl, Nat.le_of_ble_eq_true rfl⟩ X.2.1 ⟨w.2.1, w.2.2⟩ (okr_in ok12).1 (okr_in ok12).2 rfl rfl hl.1 (Nat.le_of_ble_eq_true rfl) (dcs_get dec_law_2 19 rfl) ⟨Nat.le_of_ble_eq_true rfl, Nat.le_of_ble_eq_true rfl⟩) X w (fun H locs w => ?_)
      refine lv_icmp_eq (tgt := 1160) X.1.hx X.1.hb (dcs_get dec_law_2 20 rfl) (by decide) (fun hc => ?_) (fun hc => ?_)
      · rw [if_pos hc] at hf
        obtain ⟨v381, e_v381, hf⟩ := cL_some hf
        refine lv_iinc (v := v381) (lv' := [(3, .int v381), (0, .ref b), (1, .ref (ad1 0)), (2, .ref (ad2 0))]) X.1.hx X.1.hb (dcs_get dec_law_20 18 rfl) hl (k := 3) rfl (by rw [e_v381]; rfl) (by decide) rfl (fun ls hl => ?_)
        refine lv_goto (tgt := 18) X.1.hx X.1.hb (dcs_get dec_law_20 19 rfl) (by decide) ?_
        exact hb (v381, σ377, τ380) (Option.some.inj hf).symm _ _ _ w (lv_sub hl [1, 2, 3, 0] rfl)
      · rw [if_neg hc] at hf
        refine lv_iconst (v := (0 : Int32)) X.1.hx X.1.hb (dcs_get dec_law_2 21 rfl) (by decide) ?_
        exact absurd (hr _ (Option.some.inj hf).symm) (by decide)
    rw [if_neg hc2] at hf
    by_cases hc3 : v348 = (3 : Int32)
    · rw [if_pos hc3] at hf
      refine r_tIn (k := (3 : Int32)) (tgt := 267) X.1.hx X.1.hb (dcs_get dec_law_0 21 rfl) hc3 (by decide) rfl (by decide) ?_
      refine lv_aload_n X.1.hx X.1.hb (dcs_get dec_law_2 23 rfl) rfl (lv_at hl 1 rfl) ?_
      obtain ⟨v383, h382, hf⟩ := cB_some hf
      refine a_i1 (k_V (K := kC) (c0 := 0) (As := []) (rest := []) cls11 lb_X11_place lv_X11_place q_678 (C_X11_place X.1.2.2.1 0  σ h382 ok11) ⟨Nat.le_of_ble_eq_true rfl, Nat.le_of_ble_eq_true rfl⟩ X.1 ⟨w.1, w.2.2⟩ (okr_in ok11).1 (okr_in ok11).2 rfl rfl hl.1 (Nat.le_of_ble_eq_true rfl) (dcs_get dec_law_2 24 rfl) ⟨Nat.le_of_ble_eq_true rfl, Nat.le_of_ble_eq_true rfl⟩) X w (fun H locs w => ?_)
      refine lv_aload_n X.1.hx X.1.hb (dcs_get dec_law_2 25 rfl) rfl (lv_at hl 2 rfl) ?_
      obtain ⟨v385, h384, hf⟩ := cB_some hf
      refine a_i2 (k_V (K := kM) (c0 := 0) (As := []) (rest := [.int v383]) cls12 lb_X12_place lv_X12_place q_1338 (C_X12_place X.2.1.2.2.1 0  τ h384 ok12) ⟨Nat.le_of_ble_eq_true rfl, Nat.le_of_ble_eq_true rfl⟩ X.2.1 ⟨w.2.1, w.2.2⟩ (okr_in ok12).1 (okr_in ok12).2 rfl rfl hl.1 (Nat.le_of_ble_eq_true rfl) (dcs_get dec_law_2 26 rfl) ⟨Nat.le_of_ble_eq_true rfl, Nat.le_of_ble_eq_true rfl⟩) X w (fun H locs w => ?_)
      refine lv_icmp_eq (tgt := 1160) X.1.hx X.1.hb (dcs_get dec_law_2 27 rfl) (by decide) (fun hc => ?_) (fun hc => ?_)
      · rw [if_pos hc] at hf
        obtain ⟨v386, e_v386, hf⟩ := cL_some hf
        refine lv_iinc (v := v386) (lv' := [(3, .int v386), (0, .ref b), (1, .ref (ad1 0)), (2, .ref (ad2 0))]) X.1.hx X.1.hb (dcs_get dec_law_20 18 rfl) hl (k := 3) rfl (by rw [e_v386]; rfl) (by decide) rfl (fun ls hl => ?_)
        refine lv_goto (tgt := 18) X.1.hx X.1.hb (dcs_get dec_law_20 19 rfl) (by decide) ?_
        exact hb (v386, σ, τ) (Option.some.inj hf).symm _ _ _ w (lv_sub hl [1, 2, 3, 0] rfl)
      · rw [if_neg hc] at hf
        refine lv_iconst (v := (0 : Int32)) X.1.hx X.1.hb (dcs_get dec_law_2 28 rfl) (by decide) ?_
        exact absurd (hr _ (Option.some.inj hf).symm) (by decide)
    rw [if_neg hc3] at hf
    by_cases hc4 : v348 = (4 : Int32)
    · rw [if_pos hc4] at hf
      refine r_tIn (k := (4 : Int32)) (tgt := 280) X.1.hx X.1.hb (dcs_get dec_law_0 21 rfl) hc4 (by decide) rfl (by decide) ?_
      refine lv_aload_n X.1.hx X.1.hb (dcs_get dec_law_2 30 rfl) rfl (lv_at hl 1 rfl) ?_
      refine lv_aload_n X.1.hx X.1.hb (dcs_get dec_law_2 31 rfl) rfl (lv_at hl 0 rfl) ?_
      refine lv_iload_n X.1.hx X.1.hb (dcs_get dec_law_2 32 rfl) rfl (lv_at hl 3 rfl) ?_
      refine lv_iconst (v := (1 : Int32)) X.1.hx X.1.hb (dcs_get dec_law_2 33 rfl) (by decide) ?_
      refine lv_iadd X.1.hx X.1.hb (dcs_get dec_law_2 34 rfl) ?_
      obtain ⟨h387, hf⟩ := cG_some hf
      refine va_sld X.1.hx X.1.hb X.2.2.2.1 X.2.2.2.2.1 (Nat.not_le.mpr X.2.2.2.2.1) w.2.2 (inb_in h387) (dcs_get dec_law_2 35 rfl) ?_
      refine lv_aload_n X.1.hx X.1.hb (dcs_get dec_law_2 36 rfl) rfl (lv_at hl 0 rfl) ?_
      refine lv_iload_n X.1.hx X.1.hb (dcs_get dec_law_2 37 rfl) rfl (lv_at hl 3 rfl) ?_
      refine lv_iconst (v := (2 : Int32)) X.1.hx X.1.hb (dcs_get dec_law_2 38 rfl) (by decide) ?_
      refine lv_iadd X.1.hx X.1.hb (dcs_get dec_law_2 39 rfl) ?_
      obtain ⟨h388, hf⟩ := cG_some hf
      refine va_sld X.1.hx X.1.hb X.2.2.2.1 X.2.2.2.2.1 (Nat.not_le.mpr X.2.2.2.2.1) w.2.2 (inb_in h388) (dcs_get dec_law_3 0 rfl) ?_
      refine lv_aload_n X.1.hx X.1.hb (dcs_get dec_law_3 1 rfl) rfl (lv_at hl 0 rfl) ?_
      refine lv_iload_n X.1.hx X.1.hb (dcs_get dec_law_3 2 rfl) rfl (lv_at hl 3 rfl) ?_
      refine lv_iconst (v := (3 : Int32)) X.1.hx X.1.hb (dcs_get dec_law_3 3 rfl) (by decide) ?_
      refine lv_iadd X.1.hx X.1.hb (dcs_get dec_law_3 4 rfl) ?_
      obtain ⟨h389, hf⟩ := cG_some hf
      refine va_sld X.1.hx X.1.hb X.2.2.2.1 X.2.2.2.2.1 (Nat.not_le.mpr X.2.2.2.2.1) w.2.2 (inb_in h389) (dcs_get dec_law_3 5 rfl) ?_
      obtain ⟨v391, σ392, h390, hf⟩ := cC_some hf
      refine a_i1 (k_V (K := kC) (c0 := 0) (As := [.int (xs (i + (1 : Int32)).toNatClampNeg), .int (xs (i + (2 : Int32)).toNatClampNeg), .int (xs (i + (3 : Int32)).toNatClampNeg)]) (rest := []) cls11 lb_X11_hears lv_X11_hears q_682 (C_X11_hears X.1.2.2.1 0 (xs (i + (1 : Int32)).toNatClampNeg) (xs (i + (2 : Int32)).toNatClampNeg) (xs (i + (3 : Int32)).toNatClampNeg) σ h390 ok11) ⟨Nat.le_of_ble_eq_true rfl, Nat.le_of_ble_eq_true rfl⟩ X.1 ⟨w.1, w.2.2⟩ (okr_in ok11).1 (okr_in ok11).2 rfl rfl hl.1 (Nat.le_of_ble_eq_true rfl) (dcs_get dec_law_3 6 rfl) ⟨Nat.le_of_ble_eq_true rfl, Nat.le_of_ble_eq_true rfl⟩) X w (fun H locs w => ?_)
      refine lv_aload_n X.1.hx X.1.hb (dcs_get dec_law_3 7 rfl) rfl (lv_at hl 2 rfl) ?_
      refine lv_aload_n X.1.hx X.1.hb (dcs_get dec_law_3 8 rfl) rfl (lv_at hl 0 rfl) ?_
      refine lv_iload_n X.1.hx X.1.hb (dcs_get dec_law_3 9 rfl) rfl (lv_at hl 3 rfl) ?_
      refine lv_iconst (v := (1 : Int32)) X.1.hx X.1.hb (dcs_get dec_law_3 10 rfl) (by decide) ?_
      refine lv_iadd X.1.hx X.1.hb (dcs_get dec_law_3 11 rfl) ?_
      obtain ⟨h393, hf⟩ := cG_some hf
      refine va_sld X.1.hx X.1.hb X.2.2.2.1 X.2.2.2.2.1 (Nat.not_le.mpr X.2.2.2.2.1) w.2.2 (inb_in h393) (dcs_get dec_law_3 12 rfl) ?_
      refine lv_aload_n X.1.hx X.1.hb (dcs_get dec_law_3 13 rfl) rfl (lv_at hl 0 rfl) ?_
      refine lv_iload_n X.1.hx X.1.hb (dcs_get dec_law_3 14 rfl) rfl (lv_at hl 3 rfl) ?_
      refine lv_iconst (v := (2 : Int32)) X.1.hx X.1.hb (dcs_get dec_law_3 15 rfl) (by decide) ?_
      refine lv_iadd X.1.hx X.1.hb (dcs_get dec_law_3 16 rfl) ?_
      obtain ⟨h394, hf⟩ := cG_some hf
      refine va_sld X.1.hx X.1.hb X.2.2.2.1 X.2.2.2.2.1 (Nat.not_le.mpr X.2.2.2.2.1) w.2.2 (inb_in h394) (dcs_get dec_law_3 17 rfl) ?_
      refine lv_aload_n X.1.hx X.1.hb (dcs_get dec_law_3 18 rfl) rfl (lv_at hl 0 rfl) ?_
      refine lv_iload_n X.1.hx X.1.hb (dcs_get dec_law_3 19 rfl) rfl (lv_at hl 3 rfl) ?_
      refine lv_iconst (v := (3 : Int32)) X.1.hx X.1.hb (dcs_get dec_law_3 20 rfl) (by decide) ?_
      refine lv_iadd X.1.hx X.1.hb (dcs_get dec_law_3 21 rfl) ?_
      obtain ⟨h395, hf⟩ := cG_some hf
      refine va_sld X.1.hx X.1.hb X.2.2.2.1 X.2.2.2.2.1 (Nat.not_le.mpr X.2.2.2.2.1) w.2.2 (inb_in h395) (dcs_get dec_law_3 22 rfl) ?_
      obtain ⟨v397, τ398, h396, hf⟩ := cC_some hf
      refine a_i2 (k_V (K := kM) (c0 := 0) (As := [.int (xs (i + (1 : Int32)).toNatClampNeg), .int (xs (i + (2 : Int32)).toNatClampNeg), .int (xs (i + (3 : Int32)).toNatClampNeg)]) (rest := [.int v391]) cls12 lb_X12_hears lv_X12_hears q_1342 (C_X12_hears X.2.1.2.2.1 0 (xs (i + (1 : Int32)).toNatClampNeg) (xs (i + (2 : Int32)).toNatClampNeg) (xs (i + (3 : Int32)).toNatClampNeg) τ h396 ok12) ⟨Nat.le_of_ble_eq_true rfl, Nat.le_of_ble_eq_true rfl⟩ X.2.1 ⟨w.2.1, w.2.2⟩ (okr_in ok12).1 (okr_in ok12).2 rfl rfl hl.1 (Nat.le_of_ble_eq_true rfl) (dcs_get dec_law_3 23 rfl) ⟨Nat.le_of_ble_eq_true rfl, Nat.le_of_ble_eq_true rfl⟩) X w (fun H locs w => ?_)
      refine lv_icmp_eq (tgt := 1160) X.1.hx X.1.hb (dcs_get dec_law_3 24 rfl) (by decide) (fun hc => ?_) (fun hc => ?_)
      · rw [if_pos hc] at hf
        obtain ⟨v399, e_v399, hf⟩ := cL_some hf
        refine lv_iinc (v := v399) (lv' := [(3, .int v399), (0, .ref b), (1, .ref (ad1 0)), (2, .ref (ad2 0))]) X.1.hx X.1.hb (dcs_get dec_law_20 18 rfl) hl (k := 3) rfl (by rw [e_v399]; rfl) (by decide) rfl (fun ls hl => ?_)
        refine lv_goto (tgt := 18) X.1.hx X.1.hb (dcs_get dec_law_20 19 rfl) (by decide) ?_
        exact hb (v399, σ392, τ398) (Option.some.inj hf).symm _ _ _ w (lv_sub hl [1, 2, 3, 0] rfl)
      · rw [if_neg hc] at hf
        refine lv_iconst (v := (0 : Int32)) X.1.hx X.1.hb (dcs_get dec_law_3 25 rfl) (by decide) ?_
        exact absurd (hr _ (Option.some.inj hf).symm) (by decide)
    rw [if_neg hc4] at hf
    by_cases hc5 : v348 = (5 : Int32)
    · rw [if_pos hc5] at hf
      refine r_tIn (k := (5 : Int32)) (tgt := 323) X.1.hx X.1.hb (dcs_get dec_law_0 21 rfl) hc5 (by decide) rfl (by decide) ?_
      refine lv_aload_n X.1.hx X.1.hb (dcs_get dec_law_3 27 rfl) rfl (lv_at hl 1 rfl) ?_
      refine lv_aload_n X.1.hx X.1.hb (dcs_get dec_law_3 28 rfl) rfl (lv_at hl 0 rfl) ?_
      refine lv_iload_n X.1.hx X.1.hb (dcs_get dec_law_3 29 rfl) rfl (lv_at hl 3 rfl) ?_
      refine lv_iconst (v := (1 : Int32)) X.1.hx X.1.hb (dcs_get dec_law_3 30 rfl) (by decide) ?_
      refine lv_iadd X.1.hx X.1.hb (dcs_get dec_law_3 31 rfl) ?_
      obtain ⟨h400, hf⟩ := cG_some hf
      refine va_sld X.1.hx X.1.hb X.2.2.2.1 X.2.2.2.2.1 (Nat.not_le.mpr X.2.2.2.2.1) w.2.2 (inb_in h400) (dcs_get dec_law_3 32 rfl) ?_
      refine lv_aload_n X.1.hx X.1.hb (dcs_get dec_law_3 33 rfl) rfl (lv_at hl 0 rfl) ?_
      refine lv_iload_n X.1.hx X.1.hb (dcs_get dec_law_3 34 rfl) rfl (lv_at hl 3 rfl) ?_
      refine lv_iconst (v := (2 : Int32)) X.1.hx X.1.hb (dcs_get dec_law_3 35 rfl) (by decide) ?_
      refine lv_iadd X.1.hx X.1.hb (dcs_get dec_law_3 36 rfl) ?_
      obtain ⟨h401, hf⟩ := cG_some hf
      refine va_sld X.1.hx X.1.hb X.2.2.2.1 X.2.2.2.2.1 (Nat.not_le.mpr X.2.2.2.2.1) w.2.2 (inb_in h401) (dcs_get dec_law_3 37 rfl) ?_
      refine lv_aload_n X.1.hx X.1.hb (dcs_get dec_law_3 38 rfl) rfl (lv_at hl 0 rfl) ?_
      refine lv_iload_n X.1.hx X.1.hb (dcs_get dec_law_3 39 rfl) rfl (lv_at hl 3 rfl) ?_
      refine lv_iconst (v := (3 : Int32)) X.1.hx X.1.hb (dcs_get dec_law_4 0 rfl) (by decide) ?_
      refine lv_iadd X.1.hx X.1.hb (dcs_get dec_law_4 1 rfl) ?_
      obtain ⟨h402, hf⟩ := cG_some hf
      refine va_sld X.1.hx X.1.hb X.2.2.2.1 X.2.2.2.2.1 (Nat.not_le.mpr X.2.2.2.2.1) w.2.2 (inb_in h402) (dcs_get dec_law_4 2 rfl) ?_
      obtain ⟨v404, h403, hf⟩ := cB_some hf
      refine a_i1 (k_V (K := kC) (c0 := 0) (As := [.int (xs (i + (1 : Int32)).toNatClampNeg), .int (xs (i + (2 : Int32)).toNatClampNeg), .int (xs (i + (3 : Int32)).toNatClampNeg)]) (rest := []) cls11 lb_X11_news lv_X11_news q_716 (C_X11_news X.1.2.2.1 0 (xs (i + (1 : Int32)).toNatClampNeg) (xs (i + (2 : Int32)).toNatClampNeg) (xs (i + (3 : Int32)).toNatClampNeg) σ h403 ok11) ⟨Nat.le_of_ble_eq_true rfl, Nat.le_of_ble_eq_true rfl⟩ X.1 ⟨w.1, w.2.2⟩ (okr_in ok11).1 (okr_in ok11).2 rfl rfl hl.1 (Nat.le_of_ble_eq_true rfl) (dcs_get dec_law_4 3 rfl) ⟨Nat.le_of_ble_eq_true rfl, Nat.le_of_ble_eq_true rfl⟩) X w (fun H locs w => ?_)
      refine lv_aload_n X.1.hx X.1.hb (dcs_get dec_law_4 4 rfl) rfl (lv_at hl 2 rfl) ?_
      refine lv_aload_n X.1.hx X.1.hb (dcs_get dec_law_4 5 rfl) rfl (lv_at hl 0 rfl) ?_
      refine lv_iload_n X.1.hx X.1.hb (dcs_get dec_law_4 6 rfl) rfl (lv_at hl 3 rfl) ?_
      refine lv_iconst (v := (1 : Int32)) X.1.hx X.1.hb (dcs_get dec_law_4 7 rfl) (by decide) ?_
      refine lv_iadd X.1.hx X.1.hb (dcs_get dec_law_4 8 rfl) ?_
      obtain ⟨h405, hf⟩ := cG_some hf
      refine va_sld X.1.hx X.1.hb X.2.2.2.1 X.2.2.2.2.1 (Nat.not_le.mpr X.2.2.2.2.1) w.2.2 (inb_in h405) (dcs_get dec_law_4 9 rfl) ?_
      refine lv_aload_n X.1.hx X.1.hb (dcs_get dec_law_4 10 rfl) rfl (lv_at hl 0 rfl) ?_
      refine lv_iload_n X.1.hx X.1.hb (dcs_get dec_law_4 11 rfl) rfl (lv_at hl 3 rfl) ?_
      refine lv_iconst (v := (2 : Int32)) X.1.hx X.1.hb (dcs_get dec_law_4 12 rfl) (by decide) ?_
      refine lv_iadd X.1.hx X.1.hb (dcs_get dec_law_4 13 rfl) ?_
      obtain ⟨h406, hf⟩ := cG_some hf
      refine va_sld X.1.hx X.1.hb X.2.2.2.1 X.2.2.2.2.1 (Nat.not_le.mpr X.2.2.2.2.1) w.2.2 (inb_in h406) (dcs_get dec_law_4 14 rfl) ?_
      refine lv_aload_n X.1.hx X.1.hb (dcs_get dec_law_4 15 rfl) rfl (lv_at hl 0 rfl) ?_
      refine lv_iload_n X.1.hx X.1.hb (dcs_get dec_law_4 16 rfl) rfl (lv_at hl 3 rfl) ?_
      refine lv_iconst (v := (3 : Int32)) X.1.hx X.1.hb (dcs_get dec_law_4 17 rfl) (by decide) ?_
      refine lv_iadd X.1.hx X.1.hb (dcs_get dec_law_4 18 rfl) ?_
      obtain ⟨h407, hf⟩ := cG_some hf
      refine va_sld X.1.hx X.1.hb X.2.2.2.1 X.2.2.2.2.1 (Nat.not_le.mpr X.2.2.2.2.1) w.2.2 (inb_in h407) (dcs_get dec_law_4 19 rfl) ?_
      obtain ⟨v409, h408, hf⟩ := cB_some hf
      refine a_i2 (k_V (K := kM) (c0 := 0) (As := [.int (xs (i + (1 : Int32)).toNatClampNeg), .int (xs (i + (2 : Int32)).toNatClampNeg), .int (xs (i + (3 : Int32)).toNatClampNeg)]) (rest := [.int v404]) cls12 lb_X12_news lv_X12_news q_1372 (C_X12_news X.2.1.2.2.1 0 (xs (i + (1 : Int32)).toNatClampNeg) (xs (i + (2 : Int32)).toNatClampNeg) (xs (i + (3 : Int32)).toNatClampNeg) τ h408 ok12) ⟨Nat.le_of_ble_eq_true rfl, Nat.le_of_ble_eq_true rfl⟩ X.2.1 ⟨w.2.1, w.2.2⟩ (okr_in ok12).1 (okr_in ok12).2 rfl rfl hl.1 (Nat.le_of_ble_eq_true rfl) (dcs_get dec_law_4 20 rfl) ⟨Nat.le_of_ble_eq_true rfl, Nat.le_of_ble_eq_true rfl⟩) X w (fun H locs w => ?_)
      refine lv_icmp_eq (tgt := 1160) X.1.hx X.1.hb (dcs_get dec_law_4 21 rfl) (by decide) (fun hc => ?_) (fun hc => ?_)
      · rw [if_pos hc] at hf
        obtain ⟨v410, e_v410, hf⟩ := cL_some hf
        refine lv_iinc (v := v410) (lv' := [(3, .int v410), (0, .ref b), (1, .ref (ad1 0)), (2, .ref (ad2 0))]) X.1.hx X.1.hb (dcs_get dec_law_20 18 rfl) hl (k := 3) rfl (by rw [e_v410]; rfl) (by decide) rfl (fun ls hl => ?_)
        refine lv_goto (tgt := 18) X.1.hx X.1.hb (dcs_get dec_law_20 19 rfl) (by decide) ?_
        exact hb (v410, σ, τ) (Option.some.inj hf).symm _ _ _ w (lv_sub hl [1, 2, 3, 0] rfl)
      · rw [if_neg hc] at hf
        refine lv_iconst (v := (0 : Int32)) X.1.hx X.1.hb (dcs_get dec_law_4 22 rfl) (by decide) ?_
        exact absurd (hr _ (Option.some.inj hf).symm) (by decide)
    rw [if_neg hc5] at hf
    by_cases hc6 : v348 = (6 : Int32)
    · rw [if_pos hc6] at hf
      refine r_tIn (k := (6 : Int32)) (tgt := 366) X.1.hx X.1.hb (dcs_get dec_law_0 21 rfl) hc6 (by decide) rfl (by decide) ?_
      refine lv_aload_n X.1.hx X.1.hb (dcs_get dec_law_4 24 rfl) rfl (lv_at hl 1 rfl) ?_
      refine lv_aload_n X.1.hx X.1.hb (dcs_get dec_law_4 25 rfl) rfl (lv_at hl 0 rfl) ?_
      refine lv_iload_n X.1.hx X.1.hb (dcs_get dec_law_4 26 rfl) rfl (lv_at hl 3 rfl) ?_
      refine lv_iconst (v := (1 : Int32)) X.1.hx X.1.hb (dcs_get dec_law_4 27 rfl) (by decide) ?_
      refine lv_iadd X.1.hx X.1.hb (dcs_get dec_law_4 28 rfl) ?_
      obtain ⟨h411, hf⟩ := cG_some hf
      refine va_sld X.1.hx X.1.hb X.2.2.2.1 X.2.2.2.2.1 (Nat.not_le.mpr X.2.2.2.2.1) w.2.2 (inb_in h411) (dcs_get dec_law_4 29 rfl) ?_
      refine lv_aload_n X.1.hx X.1.hb (dcs_get dec_law_4 30 rfl) rfl (lv_at hl 0 rfl) ?_
      refine lv_iload_n X.1.hx X.1.hb (dcs_get dec_law_4 31 rfl) rfl (lv_at hl 3 rfl) ?_
      refine lv_iconst (v := (2 : Int32)) X.1.hx X.1.hb (dcs_get dec_law_4 32 rfl) (by decide) ?_
      refine lv_iadd X.1.hx X.1.hb (dcs_get dec_law_4 33 rfl) ?_
      obtain ⟨h412, hf⟩ := cG_some hf
      refine va_sld X.1.hx X.1.hb X.2.2.2.1 X.2.2.2.2.1 (Nat.not_le.mpr X.2.2.2.2.1) w.2.2 (inb_in h412) (dcs_get dec_law_4 34 rfl) ?_
      refine lv_aload_n X.1.hx X.1.hb (dcs_get dec_law_4 35 rfl) rfl (lv_at hl 0 rfl) ?_
      refine lv_iload_n X.1.hx X.1.hb (dcs_get dec_law_4 36 rfl) rfl (lv_at hl 3 rfl) ?_
      refine lv_iconst (v := (3 : Int32)) X.1.hx X.1.hb (dcs_get dec_law_4 37 rfl) (by decide) ?_
      refine lv_iadd X.1.hx X.1.hb (dcs_get dec_law_4 38 rfl) ?_
      obtain ⟨h413, hf⟩ := cG_some hf
      refine va_sld X.1.hx X.1.hb X.2.2.2.1 X.2.2.2.2.1 (Nat.not_le.mpr X.2.2.2.2.1) w.2.2 (inb_in h413) (dcs_get dec_law_4 39 rfl) ?_
      refine lv_if_eq (tgt := 389) X.1.hx X.1.hb (dcs_get dec_law_5 0 rfl) (by decide) (fun hc => ?_) (fun hc => ?_)
      · rw [if_pos hc] at hf
        refine lv_iconst (v := (0 : Int32)) X.1.hx X.1.hb (dcs_get dec_law_5 3 rfl) (by decide) ?_
        obtain ⟨v415, σ416, h414, hf⟩ := cC_some hf
        refine a_i1 (k_V (K := kC) (c0 := 0) (As := [.int (xs (i + (1 : Int32)).toNatClampNeg), .int (xs (i + (2 : Int32)).toNatClampNeg), .int (0 : Int32)]) (rest := []) cls11 lb_X11_drum lv_X11_drum q_733 (C_X11_drum X.1.2.2.1 0 (xs (i + (1 : Int32)).toNatClampNeg) (xs (i + (2 : Int32)).toNatClampNeg) (0 : Int32) σ h414 ok11) ⟨Nat.le_of_ble_eq_true rfl, Nat.le_of_ble_eq_true rfl⟩ X.1 ⟨w.1, w.2.2⟩ (okr_in ok11).1 (okr_in ok11).2 rfl rfl hl.1 (Nat.le_of_ble_eq_true rfl) (dcs_get dec_law_5 4 rfl) ⟨Nat.le_of_ble_eq_true rfl, Nat.le_of_ble_eq_true rfl⟩) X w (fun H locs w => ?_)
        refine lv_aload_n X.1.hx X.1.hb (dcs_get dec_law_5 5 rfl) rfl (lv_at hl 2 rfl) ?_
        refine lv_aload_n X.1.hx X.1.hb (dcs_get dec_law_5 6 rfl) rfl (lv_at hl 0 rfl) ?_
        refine lv_iload_n X.1.hx X.1.hb (dcs_get dec_law_5 7 rfl) rfl (lv_at hl 3 rfl) ?_
        refine lv_iconst (v := (1 : Int32)) X.1.hx X.1.hb (dcs_get dec_law_5 8 rfl) (by decide) ?_
        refine lv_iadd X.1.hx X.1.hb (dcs_get dec_law_5 9 rfl) ?_
        obtain ⟨h417, hf⟩ := cG_some hf
        refine va_sld X.1.hx X.1.hb X.2.2.2.1 X.2.2.2.2.1 (Nat.not_le.mpr X.2.2.2.2.1) w.2.2 (inb_in h417) (dcs_get dec_law_5 10 rfl) ?_
        refine lv_aload_n X.1.hx X.1.hb (dcs_get dec_law_5 11 rfl) rfl (lv_at hl 0 rfl) ?_
        refine lv_iload_n X.1.hx X.1.hb (dcs_get dec_law_5 12 rfl) rfl (lv_at hl 3 rfl) ?_
        refine lv_iconst (v := (2 : Int32)) X.1.hx X.1.hb (dcs_get dec_law_5 13 rfl) (by decide) ?_
        refine lv_iadd X.1.hx X.1.hb (dcs_get dec_law_5 14 rfl) ?_
        obtain ⟨h418, hf⟩ := cG_some hf
        refine va_sld X.1.hx X.1.hb X.2.2.2.1 X.2.2.2.2.1 (Nat.not_le.mpr X.2.2.2.2.1) w.2.2 (inb_in h418) (dcs_get dec_law_5 15 rfl) ?_
        refine lv_aload_n X.1.hx X.1.hb (dcs_get dec_law_5 16 rfl) rfl (lv_at hl 0 rfl) ?_
        refine lv_iload_n X.1.hx X.1.hb (dcs_get dec_law_5 17 rfl) rfl (lv_at hl 3 rfl) ?_
        refine lv_iconst (v := (3 : Int32)) X.1.hx X.1.hb (dcs_get dec_law_5 18 rfl) (by decide) ?_
        refine lv_iadd X.1.hx X.1.hb (dcs_get dec_law_5 19 rfl) ?_
        obtain ⟨h419, hf⟩ := cG_some hf
        refine va_sld X.1.hx X.1.hb X.2.2.2.1 X.2.2.2.2.1 (Nat.not_le.mpr X.2.2.2.2.1) w.2.2 (inb_in h419) (dcs_get dec_law_5 20 rfl) ?_
        refine lv_if_eq (tgt := 416) X.1.hx X.1.hb (dcs_get dec_law_5 21 rfl) (by decide) (fun hc => ?_) (fun hc => ?_)
        · rw [if_pos hc] at hf
          refine lv_iconst (v := (0 : Int32)) X.1.hx X.1.hb (dcs_get dec_law_5 24 rfl) (by decide) ?_
          obtain ⟨v421, τ422, h420, hf⟩ := cC_some hf
          refine a_i2 (k_V (K := kM) (c0 := 0) (As := [.int (xs (i + (1 : Int32)).toNatClampNeg), .int (xs (i + (2 : Int32)).toNatClampNeg), .int (0 : Int32)]) (rest := [.int v415]) cls12 lb_X12_drum lv_X12_drum q_1380 (C_X12_drum X.2.1.2.2.1 0 (xs (i + (1 : Int32)).toNatClampNeg) (xs (i + (2 : Int32)).toNatClampNeg) (0 : Int32) τ h420 ok12) ⟨Nat.le_of_ble_eq_true rfl, Nat.le_of_ble_eq_true rfl⟩ X.2.1 ⟨w.2.1, w.2.2⟩ (okr_in ok12).1 (okr_in ok12).2 rfl rfl hl.1 (Nat.le_of_ble_eq_true rfl) (dcs_get dec_law_5 25 rfl) ⟨Nat.le_of_ble_eq_true rfl, Nat.le_of_ble_eq_true rfl⟩) X w (fun H locs w => ?_)
          refine lv_icmp_eq (tgt := 1160) X.1.hx X.1.hb (dcs_get dec_law_5 26 rfl) (by decide) (fun hc => ?_) (fun hc => ?_)
          · rw [if_pos hc] at hf
            obtain ⟨v423, e_v423, hf⟩ := cL_some hf
            refine lv_iinc (v := v423) (lv' := [(3, .int v423), (0, .ref b), (1, .ref (ad1 0)), (2, .ref (ad2 0))]) X.1.hx X.1.hb (dcs_get dec_law_20 18 rfl) hl (k := 3) rfl (by rw [e_v423]; rfl) (by decide) rfl (fun ls hl => ?_)
            refine lv_goto (tgt := 18) X.1.hx X.1.hb (dcs_get dec_law_20 19 rfl) (by decide) ?_
            exact hb (v423, σ416, τ422) (Option.some.inj hf).symm _ _ _ w (lv_sub hl [1, 2, 3, 0] rfl)
          · rw [if_neg hc] at hf
            refine lv_iconst (v := (0 : Int32)) X.1.hx X.1.hb (dcs_get dec_law_5 27 rfl) (by decide) ?_
            exact absurd (hr _ (Option.some.inj hf).symm) (by decide)
        · rw [if_neg hc] at hf
          refine lv_iconst (v := (1 : Int32)) X.1.hx X.1.hb (dcs_get dec_law_5 22 rfl) (by decide) ?_
          refine lv_goto (tgt := 417) X.1.hx X.1.hb (dcs_get dec_law_5 23 rfl) (by decide) ?_
          obtain ⟨v425, τ426, h424, hf⟩ := cC_some hf
          refine a_i2 (k_V (K := kM) (c0 := 0) (As := [.int (xs (i + (1 : Int32)).toNatClampNeg), .int (xs (i + (2 : Int32)).toNatClampNeg), .int (1 : Int32)]) (rest := [.int v415]) cls12 lb_X12_drum lv_X12_drum q_1380 (C_X12_drum X.2.1.2.2.1 0 (xs (i + (1 : Int32)).toNatClampNeg) (xs (i + (2 : Int32)).toNatClampNeg) (1 : Int32) τ h424 ok12) ⟨Nat.le_of_ble_eq_true rfl, Nat.le_of_ble_eq_true rfl⟩ X.2.1 ⟨w.2.1, w.2.2⟩ (okr_in ok12).1 (okr_in ok12).2 rfl rfl hl.1 (Nat.le_of_ble_eq_true rfl) (dcs_get dec_law_5 25 rfl) ⟨Nat.le_of_ble_eq_true rfl, Nat.le_of_ble_eq_true rfl⟩) X w (fun H locs w => ?_)
          refine lv_icmp_eq (tgt := 1160) X.1.hx X.1.hb (dcs_get dec_law_5 26 rfl) (by decide) (fun hc => ?_) (fun hc => ?_)
          · rw [if_pos hc] at hf
            obtain ⟨v427, e_v427, hf⟩ := cL_some hf
            refine lv_iinc (v := v427) (lv' := [(3, .int v427), (0, .ref b), (1, .ref (ad1 0)), (2, .ref (ad2 0))]) X.1.hx X.1.hb (dcs_get dec_law_20 18 rfl) hl (k := 3) rfl (by rw [e_v427]; rfl) (by decide) rfl (fun ls hl => ?_)
            refine lv_goto (tgt := 18) X.1.hx X.1.hb (dcs_get dec_law_20 19 rfl) (by decide) ?_
            exact hb (v427, σ416, τ426) (Option.some.inj hf).symm _ _ _ w (lv_sub hl [1, 2, 3, 0] rfl)
          · rw [if_neg hc] at hf
            refine lv_iconst (v := (0 : Int32)) X.1.hx X.1.hb (dcs_get dec_law_5 27 rfl) (by decide) ?_
            exact absurd (hr _ (Option.some.inj hf).symm) (by decide)
      · rw [if_neg hc] at hf
        refine lv_iconst (v := (1 : Int32)) X.1.hx X.1.hb (dcs_get dec_law_5 1 rfl) (by decide) ?_
        refine lv_goto (tgt := 390) X.1.hx X.1.hb (dcs_get dec_law_5 2 rfl) (by decide) ?_
        obtain ⟨v429, σ430, h428, hf⟩ := cC_some hf
        refine a_i1 (k_V (K := kC) (c0 := 0) (As := [.int (xs (i + (1 : Int32)).toNatClampNeg), .int (xs (i + (2 : Int32)).toNatClampNeg), .int (1 : Int32)]) (rest := []) cls11 lb_X11_drum lv_X11_drum q_733 (C_X11_drum X.1.2.2.1 0 (xs (i + (1 : Int32)).toNatClampNeg) (xs (i + (2 : Int32)).toNatClampNeg) (1 : Int32) σ h428 ok11) ⟨Nat.le_of_ble_eq_true rfl, Nat.le_of_ble_eq_true rfl⟩ X.1 ⟨w.1, w.2.2⟩ (okr_in ok11).1 (okr_in ok11).2 rfl rfl hl.1 (Nat.le_of_ble_eq_true rfl) (dcs_get dec_law_5 4 rfl) ⟨Nat.le_of_ble_eq_true rfl, Nat.le_of_ble_eq_true rfl⟩) X w (fun H locs w => ?_)
        refine lv_aload_n X.1.hx X.1.hb (dcs_get dec_law_5 5 rfl) rfl (lv_at hl 2 rfl) ?_
        refine lv_aload_n X.1.hx X.1.hb (dcs_get dec_law_5 6 rfl) rfl (lv_at hl 0 rfl) ?_
        refine lv_iload_n X.1.hx X.1.hb (dcs_get dec_law_5 7 rfl) rfl (lv_at hl 3 rfl) ?_
        refine lv_iconst (v := (1 : Int32)) X.1.hx X.1.hb (dcs_get dec_law_5 8 rfl) (by decide) ?_
        refine lv_iadd X.1.hx X.1.hb (dcs_get dec_law_5 9 rfl) ?_
        obtain ⟨h431, hf⟩ := cG_some hf
        refine va_sld X.1.hx X.1.hb X.2.2.2.1 X.2.2.2.2.1 (Nat.not_le.mpr X.2.2.2.2.1) w.2.2 (inb_in h431) (dcs_get dec_law_5 10 rfl) ?_
        refine lv_aload_n X.1.hx X.1.hb (dcs_get dec_law_5 11 rfl) rfl (lv_at hl 0 rfl) ?_
        refine lv_iload_n X.1.hx X.1.hb (dcs_get dec_law_5 12 rfl) rfl (lv_at hl 3 rfl) ?_
        refine lv_iconst (v := (2 : Int32)) X.1.hx X.1.hb (dcs_get dec_law_5 13 rfl) (by decide) ?_
        refine lv_iadd X.1.hx X.1.hb (dcs_get dec_law_5 14 rfl) ?_
        obtain ⟨h432, hf⟩ := cG_some hf
        refine va_sld X.1.hx X.1.hb X.2.2.2.1 X.2.2.2.2.1 (Nat.not_le.mpr X.2.2.2.2.1) w.2.2 (inb_in h432) (dcs_get dec_law_5 15 rfl) ?_
        refine lv_aload_n X.1.hx X.1.hb (dcs_get dec_law_5 16 rfl) rfl (lv_at hl 0 rfl) ?_
        refine lv_iload_n X.1.hx X.1.hb (dcs_get dec_law_5 17 rfl) rfl (lv_at hl 3 rfl) ?_
        refine lv_iconst (v := (3 : Int32)) X.1.hx X.1.hb (dcs_get dec_law_5 18 rfl) (by decide) ?_
        refine lv_iadd X.1.hx X.1.hb (dcs_get dec_law_5 19 rfl) ?_
        obtain ⟨h433, hf⟩ := cG_some hf
        refine va_sld X.1.hx X.1.hb X.2.2.2.1 X.2.2.2.2.1 (Nat.not_le.mpr X.2.2.2.2.1) w.2.2 (inb_in h433) (dcs_get dec_law_5 20 rfl) ?_
        refine lv_if_eq (tgt := 416) X.1.hx X.1.hb (dcs_get dec_law_5 21 rfl) (by decide) (fun hc => ?_) (fun hc => ?_)
        · rw [if_pos hc] at hf
          refine lv_iconst (v := (0 : Int32)) X.1.hx X.1.hb (dcs_get dec_law_5 24 rfl) (by decide) ?_
          obtain ⟨v435, τ436, h434, hf⟩ := cC_some hf
          refine a_i2 (k_V (K := kM) (c0 := 0) (As := [.int (xs (i + (1 : Int32)).toNatClampNeg), .int (xs (i + (2 : Int32)).toNatClampNeg), .int (0 : Int32)]) (rest := [.int v429]) cls12 lb_X12_drum lv_X12_drum q_1380 (C_X12_drum X.2.1.2.2.1 0 (xs (i + (1 : Int32)).toNatClampNeg) (xs (i + (2 : Int32)).toNatClampNeg) (0 : Int32) τ h434 ok12) ⟨Nat.le_of_ble_eq_true rfl, Nat.le_of_ble_eq_true rfl⟩ X.2.1 ⟨w.2.1, w.2.2⟩ (okr_in ok12).1 (okr_in ok12).2 rfl rfl hl.1 (Nat.le_of_ble_eq_true rfl) (dcs_get dec_law_5 25 rfl) ⟨Nat.le_of_ble_eq_true rfl, Nat.le_of_ble_eq_true rfl⟩) X w (fun H locs w => ?_)
          refine lv_icmp_eq (tgt := 1160) X.1.hx X.1.hb (dcs_get dec_law_5 26 rfl) (by decide) (fun hc => ?_) (fun hc => ?_)
          · rw [if_pos hc] at hf
            obtain ⟨v437, e_v437, hf⟩ := cL_some hf
            refine lv_iinc (v := v437) (lv' := [(3, .int v437), (0, .ref b), (1, .ref (ad1 0)), (2, .ref (ad2 0))]) X.1.hx X.1.hb (dcs_get dec_law_20 18 rfl) hl (k := 3) rfl (by rw [e_v437]; rfl) (by decide) rfl (fun ls hl => ?_)
            refine lv_goto (tgt := 18) X.1.hx X.1.hb (dcs_get dec_law_20 19 rfl) (by decide) ?_
            exact hb (v437, σ430, τ436) (Option.some.inj hf).symm _ _ _ w (lv_sub hl [1, 2, 3, 0] rfl)
          · rw [if_neg hc] at hf
            refine lv_iconst (v := (0 : Int32)) X.1.hx X.1.hb (dcs_get dec_law_5 27 rfl) (by decide) ?_
            exact absurd (hr _ (Option.some.inj hf).symm) (by decide)
        · rw [if_neg hc] at hf
          refine lv_iconst (v := (1 : Int32)) X.1.hx X.1.hb (dcs_get dec_law_5 22 rfl) (by decide) ?_
          refine lv_goto (tgt := 417) X.1.hx X.1.hb (dcs_get dec_law_5 23 rfl) (by decide) ?_
          obtain ⟨v439, τ440, h438, hf⟩ := cC_some hf
          refine a_i2 (k_V (K := kM) (c0 := 0) (As := [.int (xs (i + (1 : Int32)).toNatClampNeg), .int (xs (i + (2 : Int32)).toNatClampNeg), .int (1 : Int32)]) (rest := [.int v429]) cls12 lb_X12_drum lv_X12_drum q_1380 (C_X12_drum X.2.1.2.2.1 0 (xs (i + (1 : Int32)).toNatClampNeg) (xs (i + (2 : Int32)).toNatClampNeg) (1 : Int32) τ h438 ok12) ⟨Nat.le_of_ble_eq_true rfl, Nat.le_of_ble_eq_true rfl⟩ X.2.1 ⟨w.2.1, w.2.2⟩ (okr_in ok12).1 (okr_in ok12).2 rfl rfl hl.1 (Nat.le_of_ble_eq_true rfl) (dcs_get dec_law_5 25 rfl) ⟨Nat.le_of_ble_eq_true rfl, Nat.le_of_ble_eq_true rfl⟩) X w (fun H locs w => ?_)
          refine lv_icmp_eq (tgt := 1160) X.1.hx X.1.hb (dcs_get dec_law_5 26 rfl) (by decide) (fun hc => ?_) (fun hc => ?_)
          · rw [if_pos hc] at hf
            obtain ⟨v441, e_v441, hf⟩ := cL_some hf
            refine lv_iinc (v := v441) (lv' := [(3, .int v441), (0, .ref b), (1, .ref (ad1 0)), (2, .ref (ad2 0))]) X.1.hx X.1.hb (dcs_get dec_law_20 18 rfl) hl (k := 3) rfl (by rw [e_v441]; rfl) (by decide) rfl (fun ls hl => ?_)
            refine lv_goto (tgt := 18) X.1.hx X.1.hb (dcs_get dec_law_20 19 rfl) (by decide) ?_
            exact hb (v441, σ430, τ440) (Option.some.inj hf).symm _ _ _ w (lv_sub hl [1, 2, 3, 0] rfl)
          · rw [if_neg hc] at hf
            refine lv_iconst (v := (0 : Int32)) X.1.hx X.1.hb (dcs_get dec_law_5 27 rfl) (by decide) ?_
            exact absurd (hr _ (Option.some.inj hf).symm) (by decide)
    rw [if_neg hc6] at hf
    by_cases hc7 : v348 = (7 : Int32)
    · rw [if_pos hc7] at hf
      refine r_tIn (k := (7 : Int32)) (tgt := 425) X.1.hx X.1.hb (dcs_get dec_law_0 21 rfl) hc7 (by decide) rfl (by decide) ?_
      refine lv_aload_n X.1.hx X.1.hb (dcs_get dec_law_5 29 rfl) rfl (lv_at hl 1 rfl) ?_
      refine lv_aload_n X.1.hx X.1.hb (dcs_get dec_law_5 30 rfl) rfl (lv_at hl 0 rfl) ?_
      refine lv_iload_n X.1.hx X.1.hb (dcs_get dec_law_5 31 rfl) rfl (lv_at hl 3 rfl) ?_
      refine lv_iconst (v := (1 : Int32)) X.1.hx X.1.hb (dcs_get dec_law_5 32 rfl) (by decide) ?_
      refine lv_iadd X.1.hx X.1.hb (dcs_get dec_law_5 33 rfl) ?_
      obtain ⟨h442, hf⟩ := cG_some hf
      refine va_sld X.1.hx X.1.hb X.2.2.2.1 X.2.2.2.2.1 (Nat.not_le.mpr X.2.2.2.2.1) w.2.2 (inb_in h442) (dcs_get dec_law_5 34 rfl) ?_
      refine lv_aload_n X.1.hx X.1.hb (dcs_get dec_law_5 35 rfl) rfl (lv_at hl 0 rfl) ?_
      refine lv_iload_n X.1.hx X.1.hb (dcs_get dec_law_5 36 rfl) rfl (lv_at hl 3 rfl) ?_
      refine lv_iconst (v := (2 : Int32)) X.1.hx X.1.hb (dcs_get dec_law_5 37 rfl) (by decide) ?_
      refine lv_iadd X.1.hx X.1.hb (dcs_get dec_law_5 38 rfl) ?_
      obtain ⟨h443, hf⟩ := cG_some hf
      refine va_sld X.1.hx X.1.hb X.2.2.2.1 X.2.2.2.2.1 (Nat.not_le.mpr X.2.2.2.2.1) w.2.2 (inb_in h443) (dcs_get dec_law_5 39 rfl) ?_
      refine lv_aload_n X.1.hx X.1.hb (dcs_get dec_law_6 0 rfl) rfl (lv_at hl 0 rfl) ?_
      refine lv_iload_n X.1.hx X.1.hb (dcs_get dec_law_6 1 rfl) rfl (lv_at hl 3 rfl) ?_
      refine lv_iconst (v := (3 : Int32)) X.1.hx X.1.hb (dcs_get dec_law_6 2 rfl) (by decide) ?_
      refine lv_iadd X.1.hx X.1.hb (dcs_get dec_law_6 3 rfl) ?_
      obtain ⟨h444, hf⟩ := cG_some hf
      refine va_sld X.1.hx X.1.hb X.2.2.2.1 X.2.2.2.2.1 (Nat.not_le.mpr X.2.2.2.2.1) w.2.2 (inb_in h444) (dcs_get dec_law_6 4 rfl) ?_
      refine lv_if_eq (tgt := 448) X.1.hx X.1.hb (dcs_get dec_law_6 5 rfl) (by decide) (fun hc => ?_) (fun hc => ?_)
      · rw [if_pos hc] at hf
        refine lv_iconst (v := (0 : Int32)) X.1.hx X.1.hb (dcs_get dec_law_6 8 rfl) (by decide) ?_
        obtain ⟨v446, h445, hf⟩ := cB_some hf
        refine a_i1 (k_V (K := kC) (c0 := 0) (As := [.int (xs (i + (1 : Int32)).toNatClampNeg), .int (xs (i + (2 : Int32)).toNatClampNeg), .int (0 : Int32)]) (rest := []) cls11 lb_X11_may lv_X11_may q_789 (C_X11_may X.1.2.2.1 0 (xs (i + (1 : Int32)).toNatClampNeg) (xs (i + (2 : Int32)).toNatClampNeg) (0 : Int32) σ h445 ok11) ⟨Nat.le_of_ble_eq_true rfl, Nat.le_of_ble_eq_true rfl⟩ X.1 ⟨w.1, w.2.2⟩ (okr_in ok11).1 (okr_in ok11).2 rfl rfl hl.1 (Nat.le_of_ble_eq_true rfl) (dcs_get dec_law_6 9 rfl) ⟨Nat.le_of_ble_eq_true rfl, Nat.le_of_ble_eq_true rfl⟩) X w (fun H locs w => ?_)
        refine lv_aload_n X.1.hx X.1.hb (dcs_get dec_law_6 10 rfl) rfl (lv_at hl 2 rfl) ?_
        refine lv_aload_n X.1.hx X.1.hb (dcs_get dec_law_6 11 rfl) rfl (lv_at hl 0 rfl) ?_
        refine lv_iload_n X.1.hx X.1.hb (dcs_get dec_law_6 12 rfl) rfl (lv_at hl 3 rfl) ?_
        refine lv_iconst (v := (1 : Int32)) X.1.hx X.1.hb (dcs_get dec_law_6 13 rfl) (by decide) ?_
        refine lv_iadd X.1.hx X.1.hb (dcs_get dec_law_6 14 rfl) ?_
        obtain ⟨h447, hf⟩ := cG_some hf
        refine va_sld X.1.hx X.1.hb X.2.2.2.1 X.2.2.2.2.1 (Nat.not_le.mpr X.2.2.2.2.1) w.2.2 (inb_in h447) (dcs_get dec_law_6 15 rfl) ?_
        refine lv_aload_n X.1.hx X.1.hb (dcs_get dec_law_6 16 rfl) rfl (lv_at hl 0 rfl) ?_
        refine lv_iload_n X.1.hx X.1.hb (dcs_get dec_law_6 17 rfl) rfl (lv_at hl 3 rfl) ?_
        refine lv_iconst (v := (2 : Int32)) X.1.hx X.1.hb (dcs_get dec_law_6 18 rfl) (by decide) ?_
        refine lv_iadd X.1.hx X.1.hb (dcs_get dec_law_6 19 rfl) ?_
        obtain ⟨h448, hf⟩ := cG_some hf
        refine va_sld X.1.hx X.1.hb X.2.2.2.1 X.2.2.2.2.1 (Nat.not_le.mpr X.2.2.2.2.1) w.2.2 (inb_in h448) (dcs_get dec_law_6 20 rfl) ?_
        refine lv_aload_n X.1.hx X.1.hb (dcs_get dec_law_6 21 rfl) rfl (lv_at hl 0 rfl) ?_
        refine lv_iload_n X.1.hx X.1.hb (dcs_get dec_law_6 22 rfl) rfl (lv_at hl 3 rfl) ?_
        refine lv_iconst (v := (3 : Int32)) X.1.hx X.1.hb (dcs_get dec_law_6 23 rfl) (by decide) ?_
        refine lv_iadd X.1.hx X.1.hb (dcs_get dec_law_6 24 rfl) ?_
        obtain ⟨h449, hf⟩ := cG_some hf
        refine va_sld X.1.hx X.1.hb X.2.2.2.1 X.2.2.2.2.1 (Nat.not_le.mpr X.2.2.2.2.1) w.2.2 (inb_in h449) (dcs_get dec_law_6 25 rfl) ?_
        refine lv_if_eq (tgt := 475) X.1.hx X.1.hb (dcs_get dec_law_6 26 rfl) (by decide) (fun hc => ?_) (fun hc => ?_)
        · rw [if_pos hc] at hf
          refine lv_iconst (v := (0 : Int32)) X.1.hx X.1.hb (dcs_get dec_law_6 29 rfl) (by decide) ?_
          obtain ⟨v451, τ452, h450, hf⟩ := cC_some hf
          refine a_i2 (k_V (K := kM) (c0 := 0) (As := [.int (xs (i + (1 : Int32)).toNatClampNeg), .int (xs (i + (2 : Int32)).toNatClampNeg), .int (0 : Int32)]) (rest := [.int v446]) cls12 lb_X12_may lv_X12_may q_1416 (C_X12_may X.2.1.2.2.1 0 (xs (i + (1 : Int32)).toNatClampNeg) (xs (i + (2 : Int32)).toNatClampNeg) (0 : Int32) τ h450 ok12) ⟨Nat.le_of_ble_eq_true rfl, Nat.le_of_ble_eq_true rfl⟩ X.2.1 ⟨w.2.1, w.2.2⟩ (okr_in ok12).1 (okr_in ok12).2 rfl rfl hl.1 (Nat.le_of_ble_eq_true rfl) (dcs_get dec_law_6 30 rfl) ⟨Nat.le_of_ble_eq_true rfl, Nat.le_of_ble_eq_true rfl⟩) X w (fun H locs w => ?_)
          refine lv_icmp_eq (tgt := 1160) X.1.hx X.1.hb (dcs_get dec_law_6 31 rfl) (by decide) (fun hc => ?_) (fun hc => ?_)
          · rw [if_pos hc] at hf
            obtain ⟨v453, e_v453, hf⟩ := cL_some hf
            refine lv_iinc (v := v453) (lv' := [(3, .int v453), (0, .ref b), (1, .ref (ad1 0)), (2, .ref (ad2 0))]) X.1.hx X.1.hb (dcs_get dec_law_20 18 rfl) hl (k := 3) rfl (by rw [e_v453]; rfl) (by decide) rfl (fun ls hl => ?_)
            refine lv_goto (tgt := 18) X.1.hx X.1.hb (dcs_get dec_law_20 19 rfl) (by decide) ?_
            exact hb (v453, σ, τ452) (Option.some.inj hf).symm _ _ _ w (lv_sub hl [1, 2, 3, 0] rfl)
          · rw [if_neg hc] at hf
            refine lv_iconst (v := (0 : Int32)) X.1.hx X.1.hb (dcs_get dec_law_6 32 rfl) (by decide) ?_
            exact absurd (hr _ (Option.some.inj hf).symm) (by decide)
        · rw [if_neg hc] at hf
          refine lv_iconst (v := (1 : Int32)) X.1.hx X.1.hb (dcs_get dec_law_6 27 rfl) (by decide) ?_
          refine lv_goto (tgt := 476) X.1.hx X.1.hb (dcs_get dec_law_6 28 rfl) (by decide) ?_
          obtain ⟨v455, τ456, h454, hf⟩ := cC_some hf
          refine a_i2 (k_V (K := kM) (c0 := 0) (As := [.int (xs (i + (1 : Int32)).toNatClampNeg), .int (xs (i + (2 : Int32)).toNatClampNeg), .int (1 : Int32)]) (rest := [.int v446]) cls12 lb_X12_may lv_X12_may q_1416 (C_X12_may X.2.1.2.2.1 0 (xs (i + (1 : Int32)).toNatClampNeg) (xs (i + (2 : Int32)).toNatClampNeg) (1 : Int32) τ h454 ok12) ⟨Nat.le_of_ble_eq_true rfl, Nat.le_of_ble_eq_true rfl⟩ X.2.1 ⟨w.2.1, w.2.2⟩ (okr_in ok12).1 (okr_in ok12).2 rfl rfl hl.1 (Nat.le_of_ble_eq_true rfl) (dcs_get dec_law_6 30 rfl) ⟨Nat.le_of_ble_eq_true rfl, Nat.le_of_ble_eq_true rfl⟩) X w (fun H locs w => ?_)
          refine lv_icmp_eq (tgt := 1160) X.1.hx X.1.hb (dcs_get dec_law_6 31 rfl) (by decide) (fun hc => ?_) (fun hc => ?_)
          · rw [if_pos hc] at hf
            obtain ⟨v457, e_v457, hf⟩ := cL_some hf
            refine lv_iinc (v := v457) (lv' := [(3, .int v457), (0, .ref b), (1, .ref (ad1 0)), (2, .ref (ad2 0))]) X.1.hx X.1.hb (dcs_get dec_law_20 18 rfl) hl (k := 3) rfl (by rw [e_v457]; rfl) (by decide) rfl (fun ls hl => ?_)
            refine lv_goto (tgt := 18) X.1.hx X.1.hb (dcs_get dec_law_20 19 rfl) (by decide) ?_
            exact hb (v457, σ, τ456) (Option.some.inj hf).symm _ _ _ w (lv_sub hl [1, 2, 3, 0] rfl)
          · rw [if_neg hc] at hf
            refine lv_iconst (v := (0 : Int32)) X.1.hx X.1.hb (dcs_get dec_law_6 32 rfl) (by decide) ?_
            exact absurd (hr _ (Option.some.inj hf).symm) (by decide)
      · rw [if_neg hc] at hf
        refine lv_iconst (v := (1 : Int32)) X.1.hx X.1.hb (dcs_get dec_law_6 6 rfl) (by decide) ?_
        refine lv_goto (tgt := 449) X.1.hx X.1.hb (dcs_get dec_law_6 7 rfl) (by decide) ?_
        obtain ⟨v459, h458, hf⟩ := cB_some hf
        refine a_i1 (k_V (K := kC) (c0 := 0) (As := [.int (xs (i + (1 : Int32)).toNatClampNeg), .int (xs (i + (2 : Int32)).toNatClampNeg), .int (1 : Int32)]) (rest := []) cls11 lb_X11_may lv_X11_may q_789 (C_X11_may X.1.2.2.1 0 (xs (i + (1 : Int32)).toNatClampNeg) (xs (i + (2 : Int32)).toNatClampNeg) (1 : Int32) σ h458 ok11) ⟨Nat.le_of_ble_eq_true rfl, Nat.le_of_ble_eq_true rfl⟩ X.1 ⟨w.1, w.2.2⟩ (okr_in ok11).1 (okr_in ok11).2 rfl rfl hl.1 (Nat.le_of_ble_eq_true rfl) (dcs_get dec_law_6 9 rfl) ⟨Nat.le_of_ble_eq_true rfl, Nat.le_of_ble_eq_true rfl⟩) X w (fun H locs w => ?_)
        refine lv_aload_n X.1.hx X.1.hb (dcs_get dec_law_6 10 rfl) rfl (lv_at hl 2 rfl) ?_
        refine lv_aload_n X.1.hx X.1.hb (dcs_get dec_law_6 11 rfl) rfl (lv_at hl 0 rfl) ?_
        refine lv_iload_n X.1.hx X.1.hb (dcs_get dec_law_6 12 rfl) rfl (lv_at hl 3 rfl) ?_
        refine lv_iconst (v := (1 : Int32)) X.1.hx X.1.hb (dcs_get dec_law_6 13 rfl) (by decide) ?_
        refine lv_iadd X.1.hx X.1.hb (dcs_get dec_law_6 14 rfl) ?_
        obtain ⟨h460, hf⟩ := cG_some hf
        refine va_sld X.1.hx X.1.hb X.2.2.2.1 X.2.2.2.2.1 (Nat.not_le.mpr X.2.2.2.2.1) w.2.2 (inb_in h460) (dcs_get dec_law_6 15 rfl) ?_
        refine lv_aload_n X.1.hx X.1.hb (dcs_get dec_law_6 16 rfl) rfl (lv_at hl 0 rfl) ?_
        refine lv_iload_n X.1.hx X.1.hb (dcs_get dec_law_6 17 rfl) rfl (lv_at hl 3 rfl) ?_
        refine lv_iconst (v := (2 : Int32)) X.1.hx X.1.hb (dcs_get dec_law_6 18 rfl) (by decide) ?_
        refine lv_iadd X.1.hx X.1.hb (dcs_get dec_law_6 19 rfl) ?_
        obtain ⟨h461, hf⟩ := cG_some hf
        refine va_sld X.1.hx X.1.hb X.2.2.2.1 X.2.2.2.2.1 (Nat.not_le.mpr X.2.2.2.2.1) w.2.2 (inb_in h461) (dcs_get dec_law_6 20 rfl) ?_
        refine lv_aload_n X.1.hx X.1.hb (dcs_get dec_law_6 21 rfl) rfl (lv_at hl 0 rfl) ?_
        refine lv_iload_n X.1.hx X.1.hb (dcs_get dec_law_6 22 rfl) rfl (lv_at hl 3 rfl) ?_
        refine lv_iconst (v := (3 : Int32)) X.1.hx X.1.hb (dcs_get dec_law_6 23 rfl) (by decide) ?_
        refine lv_iadd X.1.hx X.1.hb (dcs_get dec_law_6 24 rfl) ?_
        obtain ⟨h462, hf⟩ := cG_some hf
        refine va_sld X.1.hx X.1.hb X.2.2.2.1 X.2.2.2.2.1 (Nat.not_le.mpr X.2.2.2.2.1) w.2.2 (inb_in h462) (dcs_get dec_law_6 25 rfl) ?_
        refine lv_if_eq (tgt := 475) X.1.hx X.1.hb (dcs_get dec_law_6 26 rfl) (by decide) (fun hc => ?_) (fun hc => ?_)
        · rw [if_pos hc] at hf
          refine lv_iconst (v := (0 : Int32)) X.1.hx X.1.hb (dcs_get dec_law_6 29 rfl) (by decide) ?_
          obtain ⟨v464, τ465, h463, hf⟩ := cC_some hf
          refine a_i2 (k_V (K := kM) (c0 := 0) (As := [.int (xs (i + (1 : Int32)).toNatClampNeg), .int (xs (i + (2 : Int32)).toNatClampNeg), .int (0 : Int32)]) (rest := [.int v459]) cls12 lb_X12_may lv_X12_may q_1416 (C_X12_may X.2.1.2.2.1 0 (xs (i + (1 : Int32)).toNatClampNeg) (xs (i + (2 : Int32)).toNatClampNeg) (0 : Int32) τ h463 ok12) ⟨Nat.le_of_ble_eq_true rfl, Nat.le_of_ble_eq_true rfl⟩ X.2.1 ⟨w.2.1, w.2.2⟩ (okr_in ok12).1 (okr_in ok12).2 rfl rfl hl.1 (Nat.le_of_ble_eq_true rfl) (dcs_get dec_law_6 30 rfl) ⟨Nat.le_of_ble_eq_true rfl, Nat.le_of_ble_eq_true rfl⟩) X w (fun H locs w => ?_)
          refine lv_icmp_eq (tgt := 1160) X.1.hx X.1.hb (dcs_get dec_law_6 31 rfl) (by decide) (fun hc => ?_) (fun hc => ?_)
          · rw [if_pos hc] at hf
            obtain ⟨v466, e_v466, hf⟩ := cL_some hf
            refine lv_iinc (v := v466) (lv' := [(3, .int v466), (0, .ref b), (1, .ref (ad1 0)), (2, .ref (ad2 0))]) X.1.hx X.1.hb (dcs_get dec_law_20 18 rfl) hl (k := 3) rfl (by rw [e_v466]; rfl) (by decide) rfl (fun ls hl => ?_)
            refine lv_goto (tgt := 18) X.1.hx X.1.hb (dcs_get dec_law_20 19 rfl) (by decide) ?_
            exact hb (v466, σ, τ465) (Option.some.inj hf).symm _ _ _ w (lv_sub hl [1, 2, 3, 0] rfl)
          · rw [if_neg hc] at hf
            refine lv_iconst (v := (0 : Int32)) X.1.hx X.1.hb (dcs_get dec_law_6 32 rfl) (by decide) ?_
            exact absurd (hr _ (Option.some.inj hf).symm) (by decide)
        · rw [if_neg hc] at hf
          refine lv_iconst (v := (1 : Int32)) X.1.hx X.1.hb (dcs_get dec_law_6 27 rfl) (by decide) ?_
          refine lv_goto (tgt := 476) X.1.hx X.1.hb (dcs_get dec_law_6 28 rfl) (by decide) ?_
          obtain ⟨v468, τ469, h467, hf⟩ := cC_some hf
          refine a_i2 (k_V (K := kM) (c0 := 0) (As := [.int (xs (i + (1 : Int32)).toNatClampNeg), .int (xs (i + (2 : Int32)).toNatClampNeg), .int (1 : Int32)]) (rest := [.int v459]) cls12 lb_X12_may lv_X12_may q_1416 (C_X12_may X.2.1.2.2.1 0 (xs (i + (1 : Int32)).toNatClampNeg) (xs (i + (2 : Int32)).toNatClampNeg) (1 : Int32) τ h467 ok12) ⟨Nat.le_of_ble_eq_true rfl, Nat.le_of_ble_eq_true rfl⟩ X.2.1 ⟨w.2.1, w.2.2⟩ (okr_in ok12).1 (okr_in ok12).2 rfl rfl hl.1 (Nat.le_of_ble_eq_true rfl) (dcs_get dec_law_6 30 rfl) ⟨Nat.le_of_ble_eq_true rfl, Nat.le_of_ble_eq_true rfl⟩) X w (fun H locs w => ?_)
          refine lv_icmp_eq (tgt := 1160) X.1.hx X.1.hb (dcs_get dec_law_6 31 rfl) (by decide) (fun hc => ?_) (fun hc => ?_)
          · rw [if_pos hc] at hf
            obtain ⟨v470, e_v470, hf⟩ := cL_some hf
            refine lv_iinc (v := v470) (lv' := [(3, .int v470), (0, .ref b), (1, .ref (ad1 0)), (2, .ref (ad2 0))]) X.1.hx X.1.hb (dcs_get dec_law_20 18 rfl) hl (k := 3) rfl (by rw [e_v470]; rfl) (by decide) rfl (fun ls hl => ?_)
            refine lv_goto (tgt := 18) X.1.hx X.1.hb (dcs_get dec_law_20 19 rfl) (by decide) ?_
            exact hb (v470, σ, τ469) (Option.some.inj hf).symm _ _ _ w (lv_sub hl [1, 2, 3, 0] rfl)
          · rw [if_neg hc] at hf
            refine lv_iconst (v := (0 : Int32)) X.1.hx X.1.hb (dcs_get dec_law_6 32 rfl) (by decide) ?_
            exact absurd (hr _ (Option.some.inj hf).symm) (by decide)
    rw [if_neg hc7] at hf
    by_cases hc8 : v348 = (8 : Int32)
    · rw [if_pos hc8] at hf
      refine r_tIn (k := (8 : Int32)) (tgt := 484) X.1.hx X.1.hb (dcs_get dec_law_0 21 rfl) hc8 (by decide) rfl (by decide) ?_
      refine lv_aload_n X.1.hx X.1.hb (dcs_get dec_law_6 34 rfl) rfl (lv_at hl 1 rfl) ?_
      refine lv_aload_n X.1.hx X.1.hb (dcs_get dec_law_6 35 rfl) rfl (lv_at hl 0 rfl) ?_
      refine lv_iload_n X.1.hx X.1.hb (dcs_get dec_law_6 36 rfl) rfl (lv_at hl 3 rfl) ?_
      refine lv_iconst (v := (1 : Int32)) X.1.hx X.1.hb (dcs_get dec_law_6 37 rfl) (by decide) ?_
      refine lv_iadd X.1.hx X.1.hb (dcs_get dec_law_6 38 rfl) ?_
      obtain ⟨h471, hf⟩ := cG_some hf
      refine va_sld X.1.hx X.1.hb X.2.2.2.1 X.2.2.2.2.1 (Nat.not_le.mpr X.2.2.2.2.1) w.2.2 (inb_in h471) (dcs_get dec_law_6 39 rfl) ?_
      refine lv_aload_n X.1.hx X.1.hb (dcs_get dec_law_7 0 rfl) rfl (lv_at hl 0 rfl) ?_
      refine lv_iload_n X.1.hx X.1.hb (dcs_get dec_law_7 1 rfl) rfl (lv_at hl 3 rfl) ?_
      refine lv_iconst (v := (2 : Int32)) X.1.hx X.1.hb (dcs_get dec_law_7 2 rfl) (by decide) ?_
      refine lv_iadd X.1.hx X.1.hb (dcs_get dec_law_7 3 rfl) ?_
      obtain ⟨h472, hf⟩ := cG_some hf
      refine va_sld X.1.hx X.1.hb X.2.2.2.1 X.2.2.2.2.1 (Nat.not_le.mpr X.2.2.2.2.1) w.2.2 (inb_in h472) (dcs_get dec_law_7 4 rfl) ?_
      obtain ⟨v474, h473, hf⟩ := cB_some hf
      refine a_i1 (k_V (K := kC) (c0 := 0) (As := [.int (xs (i + (1 : Int32)).toNatClampNeg), .int (xs (i + (2 : Int32)).toNatClampNeg)]) (rest := []) cls11 lb_X11_drummed lv_X11_drummed q_790 (C_X11_drummed X.1.2.2.1 0 (xs (i + (1 : Int32)).toNatClampNeg) (xs (i + (2 : Int32)).toNatClampNeg) σ h473 ok11) ⟨Nat.le_of_ble_eq_true rfl, Nat.le_of_ble_eq_true rfl⟩ X.1 ⟨w.1, w.2.2⟩ (okr_in ok11).1 (okr_in ok11).2 rfl rfl hl.1 (Nat.le_of_ble_eq_true rfl) (dcs_get dec_law_7 5 rfl) ⟨Nat.le_of_ble_eq_true rfl, Nat.le_of_ble_eq_true rfl⟩) X w (fun H locs w => ?_)
      refine lv_aload_n X.1.hx X.1.hb (dcs_get dec_law_7 6 rfl) rfl (lv_at hl 2 rfl) ?_
      refine lv_aload_n X.1.hx X.1.hb (dcs_get dec_law_7 7 rfl) rfl (lv_at hl 0 rfl) ?_
      refine lv_iload_n X.1.hx X.1.hb (dcs_get dec_law_7 8 rfl) rfl (lv_at hl 3 rfl) ?_
      refine lv_iconst (v := (1 : Int32)) X.1.hx X.1.hb (dcs_get dec_law_7 9 rfl) (by decide) ?_
      refine lv_iadd X.1.hx X.1.hb (dcs_get dec_law_7 10 rfl) ?_
      obtain ⟨h475, hf⟩ := cG_some hf
      refine va_sld X.1.hx X.1.hb X.2.2.2.1 X.2.2.2.2.1 (Nat.not_le.mpr X.2.2.2.2.1) w.2.2 (inb_in h475) (dcs_get dec_law_7 11 rfl) ?_
      refine lv_aload_n X.1.hx X.1.hb (dcs_get dec_law_7 12 rfl) rfl (lv_at hl 0 rfl) ?_
      refine lv_iload_n X.1.hx X.1.hb (dcs_get dec_law_7 13 rfl) rfl (lv_at hl 3 rfl) ?_
      refine lv_iconst (v := (2 : Int32)) X.1.hx X.1.hb (dcs_get dec_law_7 14 rfl) (by decide) ?_
      refine lv_iadd X.1.hx X.1.hb (dcs_get dec_law_7 15 rfl) ?_
      obtain ⟨h476, hf⟩ := cG_some hf
      refine va_sld X.1.hx X.1.hb X.2.2.2.1 X.2.2.2.2.1 (Nat.not_le.mpr X.2.2.2.2.1) w.2.2 (inb_in h476) (dcs_get dec_law_7 16 rfl) ?_
      obtain ⟨v478, h477, hf⟩ := cB_some hf
      refine a_i2 (k_V (K := kM) (c0 := 0) (As := [.int (xs (i + (1 : Int32)).toNatClampNeg), .int (xs (i + (2 : Int32)).toNatClampNeg)]) (rest := [.int v474]) cls12 lb_X12_drummed lv_X12_drummed q_1420 (C_X12_drummed X.2.1.2.2.1 0 (xs (i + (1 : Int32)).toNatClampNeg) (xs (i + (2 : Int32)).toNatClampNeg) τ h477 ok12) ⟨Nat.le_of_ble_eq_true rfl, Nat.le_of_ble_eq_true rfl⟩ X.2.1 ⟨w.2.1, w.2.2⟩ (okr_in ok12).1 (okr_in ok12).2 rfl rfl hl.1 (Nat.le_of_ble_eq_true rfl) (dcs_get dec_law_7 17 rfl) ⟨Nat.le_of_ble_eq_true rfl, Nat.le_of_ble_eq_true rfl⟩) X w (fun H locs w => ?_)
      refine lv_icmp_eq (tgt := 1160) X.1.hx X.1.hb (dcs_get dec_law_7 18 rfl) (by decide) (fun hc => ?_) (fun hc => ?_)
      · rw [if_pos hc] at hf
        obtain ⟨v479, e_v479, hf⟩ := cL_some hf
        refine lv_iinc (v := v479) (lv' := [(3, .int v479), (0, .ref b), (1, .ref (ad1 0)), (2, .ref (ad2 0))]) X.1.hx X.1.hb (dcs_get dec_law_20 18 rfl) hl (k := 3) rfl (by rw [e_v479]; rfl) (by decide) rfl (fun ls hl => ?_)
        refine lv_goto (tgt := 18) X.1.hx X.1.hb (dcs_get dec_law_20 19 rfl) (by decide) ?_
        exact hb (v479, σ, τ) (Option.some.inj hf).symm _ _ _ w (lv_sub hl [1, 2, 3, 0] rfl)
      · rw [if_neg hc] at hf
        refine lv_iconst (v := (0 : Int32)) X.1.hx X.1.hb (dcs_get dec_law_7 19 rfl) (by decide) ?_
        exact absurd (hr _ (Option.some.inj hf).symm) (by decide)
    rw [if_neg hc8] at hf
    by_cases hc9 : v348 = (9 : Int32)
    · rw [if_pos hc9] at hf
      refine r_tIn (k := (9 : Int32)) (tgt := 517) X.1.hx X.1.hb (dcs_get dec_law_0 21 rfl) hc9 (by decide) rfl (by decide) ?_
      refine lv_aload_n X.1.hx X.1.hb (dcs_get dec_law_7 21 rfl) rfl (lv_at hl 1 rfl) ?_
      obtain ⟨v481, σ482, h480, hf⟩ := cC_some hf
      refine a_i1 (k_V (K := kC) (c0 := 0) (As := []) (rest := []) cls11 lb_X11_night lv_X11_night q_794 (C_X11_night X.1.2.2.1 0  σ h480 ok11) ⟨Nat.le_of_ble_eq_true rfl, Nat.le_of_ble_eq_true rfl⟩ X.1 ⟨w.1, w.2.2⟩ (okr_in ok11).1 (okr_in ok11).2 rfl rfl hl.1 (Nat.le_of_ble_eq_true rfl) (dcs_get dec_law_7 22 rfl) ⟨Nat.le_of_ble_eq_true rfl, Nat.le_of_ble_eq_true rfl⟩) X w (fun H locs w => ?_)
      refine lv_aload_n X.1.hx X.1.hb (dcs_get dec_law_7 23 rfl) rfl (lv_at hl 2 rfl) ?_
      obtain ⟨v484, τ485, h483, hf⟩ := cC_some hf
      refine a_i2 (k_V (K := kM) (c0 := 0) (As := []) (rest := [.int v481]) cls12 lb_X12_night lv_X12_night q_1424 (C_X12_night X.2.1.2.2.1 0  τ h483 ok12) ⟨Nat.le_of_ble_eq_true rfl, Nat.le_of_ble_eq_true rfl⟩ X.2.1 ⟨w.2.1, w.2.2⟩ (okr_in ok12).1 (okr_in ok12).2 rfl rfl hl.1 (Nat.le_of_ble_eq_true rfl) (dcs_get dec_law_7 24 rfl) ⟨Nat.le_of_ble_eq_true rfl, Nat.le_of_ble_eq_true rfl⟩) X w (fun H locs w => ?_)
      refine lv_icmp_eq (tgt := 1160) X.1.hx X.1.hb (dcs_get dec_law_7 25 rfl) (by decide) (fun hc => ?_) (fun hc => ?_)
      · rw [if_pos hc] at hf
        obtain ⟨v486, e_v486, hf⟩ := cL_some hf
        refine lv_iinc (v := v486) (lv' := [(3, .int v486), (0, .ref b), (1, .ref (ad1 0)), (2, .ref (ad2 0))]) X.1.hx X.1.hb (dcs_get dec_law_20 18 rfl) hl (k := 3) rfl (by rw [e_v486]; rfl) (by decide) rfl (fun ls hl => ?_)
        refine lv_goto (tgt := 18) X.1.hx X.1.hb (dcs_get dec_law_20 19 rfl) (by decide) ?_
        exact hb (v486, σ482, τ485) (Option.some.inj hf).symm _ _ _ w (lv_sub hl [1, 2, 3, 0] rfl)
      · rw [if_neg hc] at hf
        refine lv_iconst (v := (0 : Int32)) X.1.hx X.1.hb (dcs_get dec_law_7 26 rfl) (by decide) ?_
        exact absurd (hr _ (Option.some.inj hf).symm) (by decide)
    rw [if_neg hc9] at hf
    by_cases hc10 : v348 = (10 : Int32)
    · rw [if_pos hc10] at hf
      refine r_tIn (k := (10 : Int32)) (tgt := 530) X.1.hx X.1.hb (dcs_get dec_law_0 21 rfl) hc10 (by decide) rfl (by decide) ?_
      refine lv_aload_n X.1.hx X.1.hb (dcs_get dec_law_7 28 rfl) rfl (lv_at hl 1 rfl) ?_
      refine lv_aload_n X.1.hx X.1.hb (dcs_get dec_law_7 29 rfl) rfl (lv_at hl 0 rfl) ?_
      refine lv_iload_n X.1.hx X.1.hb (dcs_get dec_law_7 30 rfl) rfl (lv_at hl 3 rfl) ?_
      refine lv_iconst (v := (1 : Int32)) X.1.hx X.1.hb (dcs_get dec_law_7 31 rfl) (by decide) ?_
      refine lv_iadd X.1.hx X.1.hb (dcs_get dec_law_7 32 rfl) ?_
      obtain ⟨h487, hf⟩ := cG_some hf
      refine va_sld X.1.hx X.1.hb X.2.2.2.1 X.2.2.2.2.1 (Nat.not_le.mpr X.2.2.2.2.1) w.2.2 (inb_in h487) (dcs_get dec_law_7 33 rfl) ?_
      obtain ⟨v489, σ490, h488, hf⟩ := cC_some hf
      refine a_i1 (k_V (K := kC) (c0 := 0) (As := [.int (xs (i + (1 : Int32)).toNatClampNeg)]) (rest := []) cls11 lb_X11_run lv_X11_run q_804 (C_X11_run X.1.2.2.1 0 (xs (i + (1 : Int32)).toNatClampNeg) σ h488 ok11) ⟨Nat.le_of_ble_eq_true rfl, Nat.le_of_ble_eq_true rfl⟩ X.1 ⟨w.1, w.2.2⟩ (okr_in ok11).1 (okr_in ok11).2 rfl rfl hl.1 (Nat.le_of_ble_eq_true rfl) (dcs_get dec_law_7 34 rfl) ⟨Nat.le_of_ble_eq_true rfl, Nat.le_of_ble_eq_true rfl⟩) X w (fun H locs w => ?_)
      refine lv_aload_n X.1.hx X.1.hb (dcs_get dec_law_7 35 rfl) rfl (lv_at hl 2 rfl) ?_
      refine lv_aload_n X.1.hx X.1.hb (dcs_get dec_law_7 36 rfl) rfl (lv_at hl 0 rfl) ?_
      refine lv_iload_n X.1.hx X.1.hb (dcs_get dec_law_7 37 rfl) rfl (lv_at hl 3 rfl) ?_
      refine lv_iconst (v := (1 : Int32)) X.1.hx X.1.hb (dcs_get dec_law_7 38 rfl) (by decide) ?_
      refine lv_iadd X.1.hx X.1.hb (dcs_get dec_law_7 39 rfl) ?_
      obtain ⟨h491, hf⟩ := cG_some hf
      refine va_sld X.1.hx X.1.hb X.2.2.2.1 X.2.2.2.2.1 (Nat.not_le.mpr X.2.2.2.2.1) w.2.2 (inb_in h491) (dcs_get dec_law_8 0 rfl) ?_
      obtain ⟨v493, τ494, h492, hf⟩ := cC_some hf
      refine a_i2 (k_V (K := kM) (c0 := 0) (As := [.int (xs (i + (1 : Int32)).toNatClampNeg)]) (rest := [.int v489]) cls12 lb_X12_run lv_X12_run q_1432 (C_X12_run X.2.1.2.2.1 0 (xs (i + (1 : Int32)).toNatClampNeg) τ h492 ok12) ⟨Nat.le_of_ble_eq_true rfl, Nat.le_of_ble_eq_true rfl⟩ X.2.1 ⟨w.2.1, w.2.2⟩ (okr_in ok12).1 (okr_in ok12).2 rfl rfl hl.1 (Nat.le_of_ble_eq_true rfl) (dcs_get dec_law_8 1 rfl) ⟨Nat.le_of_ble_eq_true rfl, Nat.le_of_ble_eq_true rfl⟩) X w (fun H locs w => ?_)
      refine lv_icmp_eq (tgt := 1160) X.1.hx X.1.hb (dcs_get dec_law_8 2 rfl) (by decide) (fun hc => ?_) (fun hc => ?_)
      · rw [if_pos hc] at hf
        obtain ⟨v495, e_v495, hf⟩ := cL_some hf
        refine lv_iinc (v := v495) (lv' := [(3, .int v495), (0, .ref b), (1, .ref (ad1 0)), (2, .ref (ad2 0))]) X.1.hx X.1.hb (dcs_get dec_law_20 18 rfl) hl (k := 3) rfl (by rw [e_v495]; rfl) (by decide) rfl (fun ls hl => ?_)
        refine lv_goto (tgt := 18) X.1.hx X.1.hb (dcs_get dec_law_20 19 rfl) (by decide) ?_
        exact hb (v495, σ490, τ494) (Option.some.inj hf).symm _ _ _ w (lv_sub hl [1, 2, 3, 0] rfl)
      · rw [if_neg hc] at hf
        refine lv_iconst (v := (0 : Int32)) X.1.hx X.1.hb (dcs_get dec_law_8 3 rfl) (by decide) ?_
        exact absurd (hr _ (Option.some.inj hf).symm) (by decide)
    rw [if_neg hc10] at hf
    by_cases hc11 : v348 = (11 : Int32)
    · rw [if_pos hc11] at hf
      refine r_tIn (k := (11 : Int32)) (tgt := 553) X.1.hx X.1.hb (dcs_get dec_law_0 21 rfl) hc11 (by decide) rfl (by decide) ?_
      refine lv_aload_n X.1.hx X.1.hb (dcs_get dec_law_8 5 rfl) rfl (lv_at hl 1 rfl) ?_
      obtain ⟨v497, σ498, h496, hf⟩ := cC_some hf
      refine a_i1 (k_V (K := kC) (c0 := 0) (As := []) (rest := []) cls11 lb_X11_undo lv_X11_undo q_816 (C_X11_undo X.1.2.2.1 0  σ h496 ok11) ⟨Nat.le_of_ble_eq_true rfl, Nat.le_of_ble_eq_true rfl⟩ X.1 ⟨w.1, w.2.2⟩ (okr_in ok11).1 (okr_in ok11).2 rfl rfl hl.1 (Nat.le_of_ble_eq_true rfl) (dcs_get dec_law_8 6 rfl) ⟨Nat.le_of_ble_eq_true rfl, Nat.le_of_ble_eq_true rfl⟩) X w (fun H locs w => ?_)
      refine lv_aload_n X.1.hx X.1.hb (dcs_get dec_law_8 7 rfl) rfl (lv_at hl 2 rfl) ?_
      obtain ⟨v500, τ501, h499, hf⟩ := cC_some hf
      refine a_i2 (k_V (K := kM) (c0 := 0) (As := []) (rest := [.int v497]) cls12 lb_X12_undo lv_X12_undo q_1444 (C_X12_undo X.2.1.2.2.1 0  τ h499 ok12) ⟨Nat.le_of_ble_eq_true rfl, Nat.le_of_ble_eq_true rfl⟩ X.2.1 ⟨w.2.1, w.2.2⟩ (okr_in ok12).1 (okr_in ok12).2 rfl rfl hl.1 (Nat.le_of_ble_eq_true rfl) (dcs_get dec_law_8 8 rfl) ⟨Nat.le_of_ble_eq_true rfl, Nat.le_of_ble_eq_true rfl⟩) X w (fun H locs w => ?_)
      refine lv_icmp_eq (tgt := 1160) X.1.hx X.1.hb (dcs_get dec_law_8 9 rfl) (by decide) (fun hc => ?_) (fun hc => ?_)
      · rw [if_pos hc] at hf
        obtain ⟨v502, e_v502, hf⟩ := cL_some hf
        refine lv_iinc (v := v502) (lv' := [(3, .int v502), (0, .ref b), (1, .ref (ad1 0)), (2, .ref (ad2 0))]) X.1.hx X.1.hb (dcs_get dec_law_20 18 rfl) hl (k := 3) rfl (by rw [e_v502]; rfl) (by decide) rfl (fun ls hl => ?_)
        refine lv_goto (tgt := 18) X.1.hx X.1.hb (dcs_get dec_law_20 19 rfl) (by decide) ?_
        exact hb (v502, σ498, τ501) (Option.some.inj hf).symm _ _ _ w (lv_sub hl [1, 2, 3, 0] rfl)
      · rw [if_neg hc] at hf
        refine lv_iconst (v := (0 : Int32)) X.1.hx X.1.hb (dcs_get dec_law_8 10 rfl) (by decide) ?_
        exact absurd (hr _ (Option.some.inj hf).symm) (by decide)
    rw [if_neg hc11] at hf
    by_cases hc12 : v348 = (12 : Int32)
    · rw [if_pos hc12] at hf
      refine r_tIn (k := (12 : Int32)) (tgt := 566) X.1.hx X.1.hb (dcs_get dec_law_0 21 rfl) hc12 (by decide) rfl (by decide) ?_
      refine lv_aload_n X.1.hx X.1.hb (dcs_get dec_law_8 12 rfl) rfl (lv_at hl 1 rfl) ?_
      refine lv_aload_n X.1.hx X.1.hb (dcs_get dec_law_8 13 rfl) rfl (lv_at hl 0 rfl) ?_
      refine lv_iload_n X.1.hx X.1.hb (dcs_get dec_law_8 14 rfl) rfl (lv_at hl 3 rfl) ?_
      refine lv_iconst (v := (1 : Int32)) X.1.hx X.1.hb (dcs_get dec_law_8 15 rfl) (by decide) ?_
      refine lv_iadd X.1.hx X.1.hb (dcs_get dec_law_8 16 rfl) ?_
      obtain ⟨h503, hf⟩ := cG_some hf
      refine va_sld X.1.hx X.1.hb X.2.2.2.1 X.2.2.2.2.1 (Nat.not_le.mpr X.2.2.2.2.1) w.2.2 (inb_in h503) (dcs_get dec_law_8 17 rfl) ?_
      refine lv_aload_n X.1.hx X.1.hb (dcs_get dec_law_8 18 rfl) rfl (lv_at hl 0 rfl) ?_
      refine lv_iload_n X.1.hx X.1.hb (dcs_get dec_law_8 19 rfl) rfl (lv_at hl 3 rfl) ?_
      refine lv_iconst (v := (2 : Int32)) X.1.hx X.1.hb (dcs_get dec_law_8 20 rfl) (by decide) ?_
      refine lv_iadd X.1.hx X.1.hb (dcs_get dec_law_8 21 rfl) ?_
      obtain ⟨h504, hf⟩ := cG_some hf
      refine va_sld X.1.hx X.1.hb X.2.2.2.1 X.2.2.2.2.1 (Nat.not_le.mpr X.2.2.2.2.1) w.2.2 (inb_in h504) (dcs_get dec_law_8 22 rfl) ?_
      obtain ⟨v506, σ507, h505, hf⟩ := cC_some hf
      refine a_i1 (k_V (K := kC) (c0 := 0) (As := [.int (xs (i + (1 : Int32)).toNatClampNeg), .int (xs (i + (2 : Int32)).toNatClampNeg)]) (rest := []) cls11 lb_X11_byRule lv_X11_byRule q_831 (C_X11_byRule X.1.2.2.1 0 (xs (i + (1 : Int32)).toNatClampNeg) (xs (i + (2 : Int32)).toNatClampNeg) σ h505 ok11) ⟨Nat.le_of_ble_eq_true rfl, Nat.le_of_ble_eq_true rfl⟩ X.1 ⟨w.1, w.2.2⟩ (okr_in ok11).1 (okr_in ok11).2 rfl rfl hl.1 (Nat.le_of_ble_eq_true rfl) (dcs_get dec_law_8 23 rfl) ⟨Nat.le_of_ble_eq_true rfl, Nat.le_of_ble_eq_true rfl⟩) X w (fun H locs w => ?_)
      refine lv_aload_n X.1.hx X.1.hb (dcs_get dec_law_8 24 rfl) rfl (lv_at hl 2 rfl) ?_
      refine lv_aload_n X.1.hx X.1.hb (dcs_get dec_law_8 25 rfl) rfl (lv_at hl 0 rfl) ?_
      refine lv_iload_n X.1.hx X.1.hb (dcs_get dec_law_8 26 rfl) rfl (lv_at hl 3 rfl) ?_
      refine lv_iconst (v := (1 : Int32)) X.1.hx X.1.hb (dcs_get dec_law_8 27 rfl) (by decide) ?_
      refine lv_iadd X.1.hx X.1.hb (dcs_get dec_law_8 28 rfl) ?_
      obtain ⟨h508, hf⟩ := cG_some hf
      refine va_sld X.1.hx X.1.hb X.2.2.2.1 X.2.2.2.2.1 (Nat.not_le.mpr X.2.2.2.2.1) w.2.2 (inb_in h508) (dcs_get dec_law_8 29 rfl) ?_
      refine lv_aload_n X.1.hx X.1.hb (dcs_get dec_law_8 30 rfl) rfl (lv_at hl 0 rfl) ?_
      refine lv_iload_n X.1.hx X.1.hb (dcs_get dec_law_8 31 rfl) rfl (lv_at hl 3 rfl) ?_
      refine lv_iconst (v := (2 : Int32)) X.1.hx X.1.hb (dcs_get dec_law_8 32 rfl) (by decide) ?_
      refine lv_iadd X.1.hx X.1.hb (dcs_get dec_law_8 33 rfl) ?_
      obtain ⟨h509, hf⟩ := cG_some hf
      refine va_sld X.1.hx X.1.hb X.2.2.2.1 X.2.2.2.2.1 (Nat.not_le.mpr X.2.2.2.2.1) w.2.2 (inb_in h509) (dcs_get dec_law_8 34 rfl) ?_
      obtain ⟨v511, τ512, h510, hf⟩ := cC_some hf
      refine a_i2 (k_V (K := kM) (c0 := 0) (As := [.int (xs (i + (1 : Int32)).toNatClampNeg), .int (xs (i + (2 : Int32)).toNatClampNeg)]) (rest := [.int v506]) cls12 lb_X12_byRule lv_X12_byRule q_1448 (C_X12_byRule X.2.1.2.2.1 0 (xs (i + (1 : Int32)).toNatClampNeg) (xs (i + (2 : Int32)).toNatClampNeg) τ h510 ok12) ⟨Nat.le_of_ble_eq_true rfl, Nat.le_of_ble_eq_true rfl⟩ X.2.1 ⟨w.2.1, w.2.2⟩ (okr_in ok12).1 (okr_in ok12).2 rfl rfl hl.1 (Nat.le_of_ble_eq_true rfl) (dcs_get dec_law_8 35 rfl) ⟨Nat.le_of_ble_eq_true rfl, Nat.le_of_ble_eq_true rfl⟩) X w (fun H locs w => ?_)
      refine lv_icmp_eq (tgt := 1160) X.1.hx X.1.hb (dcs_get dec_law_8 36 rfl) (by decide) (fun hc => ?_) (fun hc => ?_)
      · rw [if_pos hc] at hf
        obtain ⟨v513, e_v513, hf⟩ := cL_some hf
        refine lv_iinc (v := v513) (lv' := [(3, .int v513), (0, .ref b), (1, .ref (ad1 0)), (2, .ref (ad2 0))]) X.1.hx X.1.hb (dcs_get dec_law_20 18 rfl) hl (k := 3) rfl (by rw [e_v513]; rfl) (by decide) rfl (fun ls hl => ?_)
        refine lv_goto (tgt := 18) X.1.hx X.1.hb (dcs_get dec_law_20 19 rfl) (by decide) ?_
        exact hb (v513, σ507, τ512) (Option.some.inj hf).symm _ _ _ w (lv_sub hl [1, 2, 3, 0] rfl)
      · rw [if_neg hc] at hf
        refine lv_iconst (v := (0 : Int32)) X.1.hx X.1.hb (dcs_get dec_law_8 37 rfl) (by decide) ?_
        exact absurd (hr _ (Option.some.inj hf).symm) (by decide)
    rw [if_neg hc12] at hf
    by_cases hc13 : v348 = (13 : Int32)
    · rw [if_pos hc13] at hf
      refine r_tIn (k := (13 : Int32)) (tgt := 599) X.1.hx X.1.hb (dcs_get dec_law_0 21 rfl) hc13 (by decide) rfl (by decide) ?_
      refine lv_aload_n X.1.hx X.1.hb (dcs_get dec_law_8 39 rfl) rfl (lv_at hl 1 rfl) ?_
      refine lv_aload_n X.1.hx X.1.hb (dcs_get dec_law_9 0 rfl) rfl (lv_at hl 0 rfl) ?_
      refine lv_iload_n X.1.hx X.1.hb (dcs_get dec_law_9 1 rfl) rfl (lv_at hl 3 rfl) ?_
      refine lv_iconst (v := (1 : Int32)) X.1.hx X.1.hb (dcs_get dec_law_9 2 rfl) (by decide) ?_
      refine lv_iadd X.1.hx X.1.hb (dcs_get dec_law_9 3 rfl) ?_
      obtain ⟨h514, hf⟩ := cG_some hf
      refine va_sld X.1.hx X.1.hb X.2.2.2.1 X.2.2.2.2.1 (Nat.not_le.mpr X.2.2.2.2.1) w.2.2 (inb_in h514) (dcs_get dec_law_9 4 rfl) ?_
      refine lv_aload_n X.1.hx X.1.hb (dcs_get dec_law_9 5 rfl) rfl (lv_at hl 0 rfl) ?_
      refine lv_iload_n X.1.hx X.1.hb (dcs_get dec_law_9 6 rfl) rfl (lv_at hl 3 rfl) ?_
      refine lv_iconst (v := (2 : Int32)) X.1.hx X.1.hb (dcs_get dec_law_9 7 rfl) (by decide) ?_
      refine lv_iadd X.1.hx X.1.hb (dcs_get dec_law_9 8 rfl) ?_
      obtain ⟨h515, hf⟩ := cG_some hf
      refine va_sld X.1.hx X.1.hb X.2.2.2.1 X.2.2.2.2.1 (Nat.not_le.mpr X.2.2.2.2.1) w.2.2 (inb_in h515) (dcs_get dec_law_9 9 rfl) ?_
      refine lv_aload_n X.1.hx X.1.hb (dcs_get dec_law_9 10 rfl) rfl (lv_at hl 0 rfl) ?_
      refine lv_iload_n X.1.hx X.1.hb (dcs_get dec_law_9 11 rfl) rfl (lv_at hl 3 rfl) ?_
      refine lv_iconst (v := (3 : Int32)) X.1.hx X.1.hb (dcs_get dec_law_9 12 rfl) (by decide) ?_
      refine lv_iadd X.1.hx X.1.hb (dcs_get dec_law_9 13 rfl) ?_
      obtain ⟨h516, hf⟩ := cG_some hf
      refine va_sld X.1.hx X.1.hb X.2.2.2.1 X.2.2.2.2.1 (Nat.not_le.mpr X.2.2.2.2.1) w.2.2 (inb_in h516) (dcs_get dec_law_9 14 rfl) ?_
      refine lv_aload_n X.1.hx X.1.hb (dcs_get dec_law_9 15 rfl) rfl (lv_at hl 0 rfl) ?_
      refine lv_iload_n X.1.hx X.1.hb (dcs_get dec_law_9 16 rfl) rfl (lv_at hl 3 rfl) ?_
      refine lv_iconst (v := (4 : Int32)) X.1.hx X.1.hb (dcs_get dec_law_9 17 rfl) (by decide) ?_
      refine lv_iadd X.1.hx X.1.hb (dcs_get dec_law_9 18 rfl) ?_
      obtain ⟨h517, hf⟩ := cG_some hf
      refine va_sld X.1.hx X.1.hb X.2.2.2.1 X.2.2.2.2.1 (Nat.not_le.mpr X.2.2.2.2.1) w.2.2 (inb_in h517) (dcs_get dec_law_9 19 rfl) ?_
      obtain ⟨v519, σ520, h518, hf⟩ := cC_some hf
      refine a_i1 (k_V (K := kC) (c0 := 0) (As := [.int (xs (i + (1 : Int32)).toNatClampNeg), .int (xs (i + (2 : Int32)).toNatClampNeg), .int (xs (i + (3 : Int32)).toNatClampNeg), .int (xs (i + (4 : Int32)).toNatClampNeg)]) (rest := []) cls11 lb_X11_agreed lv_X11_agreed q_840 (C_X11_agreed X.1.2.2.1 0 (xs (i + (1 : Int32)).toNatClampNeg) (xs (i + (2 : Int32)).toNatClampNeg) (xs (i + (3 : Int32)).toNatClampNeg) (xs (i + (4 : Int32)).toNatClampNeg) σ h518 ok11) ⟨Nat.le_of_ble_eq_true rfl, Nat.le_of_ble_eq_true rfl⟩ X.1 ⟨w.1, w.2.2⟩ (okr_in ok11).1 (okr_in ok11).2 rfl rfl hl.1 (Nat.le_of_ble_eq_true rfl) (dcs_get dec_law_9 20 rfl) ⟨Nat.le_of_ble_eq_true rfl, Nat.le_of_ble_eq_true rfl⟩) X w (fun H locs w => ?_)
      refine lv_aload_n X.1.hx X.1.hb (dcs_get dec_law_9 21 rfl) rfl (lv_at hl 2 rfl) ?_
      refine lv_aload_n X.1.hx X.1.hb (dcs_get dec_law_9 22 rfl) rfl (lv_at hl 0 rfl) ?_
      refine lv_iload_n X.1.hx X.1.hb (dcs_get dec_law_9 23 rfl) rfl (lv_at hl 3 rfl) ?_
      refine lv_iconst (v := (1 : Int32)) X.1.hx X.1.hb (dcs_get dec_law_9 24 rfl) (by decide) ?_
      refine lv_iadd X.1.hx X.1.hb (dcs_get dec_law_9 25 rfl) ?_
      obtain ⟨h521, hf⟩ := cG_some hf
      refine va_sld X.1.hx X.1.hb X.2.2.2.1 X.2.2.2.2.1 (Nat.not_le.mpr X.2.2.2.2.1) w.2.2 (inb_in h521) (dcs_get dec_law_9 26 rfl) ?_
      refine lv_aload_n X.1.hx X.1.hb (dcs_get dec_law_9 27 rfl) rfl (lv_at hl 0 rfl) ?_
      refine lv_iload_n X.1.hx X.1.hb (dcs_get dec_law_9 28 rfl) rfl (lv_at hl 3 rfl) ?_
      refine lv_iconst (v := (2 : Int32)) X.1.hx X.1.hb (dcs_get dec_law_9 29 rfl) (by decide) ?_
      refine lv_iadd X.1.hx X.1.hb (dcs_get dec_law_9 30 rfl) ?_
      obtain ⟨h522, hf⟩ := cG_some hf
      refine va_sld X.1.hx X.1.hb X.2.2.2.1 X.2.2.2.2.1 (Nat.not_le.mpr X.2.2.2.2.1) w.2.2 (inb_in h522) (dcs_get dec_law_9 31 rfl) ?_
      refine lv_aload_n X.1.hx X.1.hb (dcs_get dec_law_9 32 rfl) rfl (lv_at hl 0 rfl) ?_
      refine lv_iload_n X.1.hx X.1.hb (dcs_get dec_law_9 33 rfl) rfl (lv_at hl 3 rfl) ?_
      refine lv_iconst (v := (3 : Int32)) X.1.hx X.1.hb (dcs_get dec_law_9 34 rfl) (by decide) ?_
      refine lv_iadd X.1.hx X.1.hb (dcs_get dec_law_9 35 rfl) ?_
      obtain ⟨h523, hf⟩ := cG_some hf
      refine va_sld X.1.hx X.1.hb X.2.2.2.1 X.2.2.2.2.1 (Nat.not_le.mpr X.2.2.2.2.1) w.2.2 (inb_in h523) (dcs_get dec_law_9 36 rfl) ?_
      refine lv_aload_n X.1.hx X.1.hb (dcs_get dec_law_9 37 rfl) rfl (lv_at hl 0 rfl) ?_
      refine lv_iload_n X.1.hx X.1.hb (dcs_get dec_law_9 38 rfl) rfl (lv_at hl 3 rfl) ?_
      refine lv_iconst (v := (4 : Int32)) X.1.hx X.1.hb (dcs_get dec_law_9 39 rfl) (by decide) ?_
      refine lv_iadd X.1.hx X.1.hb (dcs_get dec_law_10 0 rfl) ?_
      obtain ⟨h524, hf⟩ := cG_some hf
      refine va_sld X.1.hx X.1.hb X.2.2.2.1 X.2.2.2.2.1 (Nat.not_le.mpr X.2.2.2.2.1) w.2.2 (inb_in h524) (dcs_get dec_law_10 1 rfl) ?_
      obtain ⟨v526, τ527, h525, hf⟩ := cC_some hf
      refine a_i2 (k_V (K := kM) (c0 := 0) (As := [.int (xs (i + (1 : Int32)).toNatClampNeg), .int (xs (i + (2 : Int32)).toNatClampNeg), .int (xs (i + (3 : Int32)).toNatClampNeg), .int (xs (i + (4 : Int32)).toNatClampNeg)]) (rest := [.int v519]) cls12 lb_X12_agreed lv_X12_agreed q_1456 (C_X12_agreed X.2.1.2.2.1 0 (xs (i + (1 : Int32)).toNatClampNeg) (xs (i + (2 : Int32)).toNatClampNeg) (xs (i + (3 : Int32)).toNatClampNeg) (xs (i + (4 : Int32)).toNatClampNeg) τ h525 ok12) ⟨Nat.le_of_ble_eq_true rfl, Nat.le_of_ble_eq_true rfl⟩ X.2.1 ⟨w.2.1, w.2.2⟩ (okr_in ok12).1 (okr_in ok12).2 rfl rfl hl.1 (Nat.le_of_ble_eq_true rfl) (dcs_get dec_law_10 2 rfl) ⟨Nat.le_of_ble_eq_true rfl, Nat.le_of_ble_eq_true rfl⟩) X w (fun H locs w => ?_)
      refine lv_icmp_eq (tgt := 1160) X.1.hx X.1.hb (dcs_get dec_law_10 3 rfl) (by decide) (fun hc => ?_) (fun hc => ?_)
      · rw [if_pos hc] at hf
        obtain ⟨v528, e_v528, hf⟩ := cL_some hf
        refine lv_iinc (v := v528) (lv' := [(3, .int v528), (0, .ref b), (1, .ref (ad1 0)), (2, .ref (ad2 0))]) X.1.hx X.1.hb (dcs_get dec_law_20 18 rfl) hl (k := 3) rfl (by rw [e_v528]; rfl) (by decide) rfl (fun ls hl => ?_)
        refine lv_goto (tgt := 18) X.1.hx X.1.hb (dcs_get dec_law_20 19 rfl) (by decide) ?_
        exact hb (v528, σ520, τ527) (Option.some.inj hf).symm _ _ _ w (lv_sub hl [1, 2, 3, 0] rfl)
      · rw [if_neg hc] at hf
        refine lv_iconst (v := (0 : Int32)) X.1.hx X.1.hb (dcs_get dec_law_10 4 rfl) (by decide) ?_
        exact absurd (hr _ (Option.some.inj hf).symm) (by decide)
    rw [if_neg hc13] at hf
    by_cases hc14 : v348 = (14 : Int32)
    · rw [if_pos hc14] at hf
      refine r_tIn (k := (14 : Int32)) (tgt := 652) X.1.hx X.1.hb (dcs_get dec_law_0 21 rfl) hc14 (by decide) rfl (by decide) ?_
      refine lv_aload_n X.1.hx X.1.hb (dcs_get dec_law_10 6 rfl) rfl (lv_at hl 1 rfl) ?_
      refine lv_aload_n X.1.hx X.1.hb (dcs_get dec_law_10 7 rfl) rfl (lv_at hl 0 rfl) ?_
      refine lv_iload_n X.1.hx X.1.hb (dcs_get dec_law_10 8 rfl) rfl (lv_at hl 3 rfl) ?_
      refine lv_iconst (v := (1 : Int32)) X.1.hx X.1.hb (dcs_get dec_law_10 9 rfl) (by decide) ?_
      refine lv_iadd X.1.hx X.1.hb (dcs_get dec_law_10 10 rfl) ?_
      obtain ⟨h529, hf⟩ := cG_some hf
      refine va_sld X.1.hx X.1.hb X.2.2.2.1 X.2.2.2.2.1 (Nat.not_le.mpr X.2.2.2.2.1) w.2.2 (inb_in h529) (dcs_get dec_law_10 11 rfl) ?_
      obtain ⟨v531, σ532, h530, hf⟩ := cC_some hf
      refine a_i1 (k_V (K := kC) (c0 := 0) (As := [.int (xs (i + (1 : Int32)).toNatClampNeg)]) (rest := []) cls11 lb_X11_talk lv_X11_talk q_844 (C_X11_talk X.1.2.2.1 0 (xs (i + (1 : Int32)).toNatClampNeg) σ h530 ok11) ⟨Nat.le_of_ble_eq_true rfl, Nat.le_of_ble_eq_true rfl⟩ X.1 ⟨w.1, w.2.2⟩ (okr_in ok11).1 (okr_in ok11).2 rfl rfl hl.1 (Nat.le_of_ble_eq_true rfl) (dcs_get dec_law_10 12 rfl) ⟨Nat.le_of_ble_eq_true rfl, Nat.le_of_ble_eq_true rfl⟩) X w (fun H locs w => ?_)
      refine lv_aload_n X.1.hx X.1.hb (dcs_get dec_law_10 13 rfl) rfl (lv_at hl 2 rfl) ?_
      refine lv_aload_n X.1.hx X.1.hb (dcs_get dec_law_10 14 rfl) rfl (lv_at hl 0 rfl) ?_
      refine lv_iload_n X.1.hx X.1.hb (dcs_get dec_law_10 15 rfl) rfl (lv_at hl 3 rfl) ?_
      refine lv_iconst (v := (1 : Int32)) X.1.hx X.1.hb (dcs_get dec_law_10 16 rfl) (by decide) ?_
      refine lv_iadd X.1.hx X.1.hb (dcs_get dec_law_10 17 rfl) ?_
      obtain ⟨h533, hf⟩ := cG_some hf
      refine va_sld X.1.hx X.1.hb X.2.2.2.1 X.2.2.2.2.1 (Nat.not_le.mpr X.2.2.2.2.1) w.2.2 (inb_in h533) (dcs_get dec_law_10 18 rfl) ?_
      obtain ⟨v535, τ536, h534, hf⟩ := cC_some hf
      refine a_i2 (k_V (K := kM) (c0 := 0) (As := [.int (xs (i + (1 : Int32)).toNatClampNeg)]) (rest := [.int v531]) cls12 lb_X12_talk lv_X12_talk q_1460 (C_X12_talk X.2.1.2.2.1 0 (xs (i + (1 : Int32)).toNatClampNeg) τ h534 ok12) ⟨Nat.le_of_ble_eq_true rfl, Nat.le_of_ble_eq_true rfl⟩ X.2.1 ⟨w.2.1, w.2.2⟩ (okr_in ok12).1 (okr_in ok12).2 rfl rfl hl.1 (Nat.le_of_ble_eq_true rfl) (dcs_get dec_law_10 19 rfl) ⟨Nat.le_of_ble_eq_true rfl, Nat.le_of_ble_eq_true rfl⟩) X w (fun H locs w => ?_)
      refine lv_icmp_eq (tgt := 1160) X.1.hx X.1.hb (dcs_get dec_law_10 20 rfl) (by decide) (fun hc => ?_) (fun hc => ?_)
      · rw [if_pos hc] at hf
        obtain ⟨v537, e_v537, hf⟩ := cL_some hf
        refine lv_iinc (v := v537) (lv' := [(3, .int v537), (0, .ref b), (1, .ref (ad1 0)), (2, .ref (ad2 0))]) X.1.hx X.1.hb (dcs_get dec_law_20 18 rfl) hl (k := 3) rfl (by rw [e_v537]; rfl) (by decide) rfl (fun ls hl => ?_)
        refine lv_goto (tgt := 18) X.1.hx X.1.hb (dcs_get dec_law_20 19 rfl) (by decide) ?_
        exact hb (v537, σ532, τ536) (Option.some.inj hf).symm _ _ _ w (lv_sub hl [1, 2, 3, 0] rfl)
      · rw [if_neg hc] at hf
        refine lv_iconst (v := (0 : Int32)) X.1.hx X.1.hb (dcs_get dec_law_10 21 rfl) (by decide) ?_
        exact absurd (hr _ (Option.some.inj hf).symm) (by decide)
    rw [if_neg hc14] at hf
    by_cases hc15 : v348 = (15 : Int32)
    · rw [if_pos hc15] at hf
      refine r_tIn (k := (15 : Int32)) (tgt := 675) X.1.hx X.1.hb (dcs_get dec_law_0 21 rfl) hc15 (by decide) rfl (by decide) ?_
      refine lv_aload_n X.1.hx X.1.hb (dcs_get dec_law_10 23 rfl) rfl (lv_at hl 1 rfl) ?_
      refine lv_aload_n X.1.hx X.1.hb (dcs_get dec_law_10 24 rfl) rfl (lv_at hl 0 rfl) ?_
      refine lv_iload_n X.1.hx X.1.hb (dcs_get dec_law_10 25 rfl) rfl (lv_at hl 3 rfl) ?_
      refine lv_iconst (v := (1 : Int32)) X.1.hx X.1.hb (dcs_get dec_law_10 26 rfl) (by decide) ?_
      refine lv_iadd X.1.hx X.1.hb (dcs_get dec_law_10 27 rfl) ?_
      obtain ⟨h538, hf⟩ := cG_some hf
      refine va_sld X.1.hx X.1.hb X.2.2.2.1 X.2.2.2.2.1 (Nat.not_le.mpr X.2.2.2.2.1) w.2.2 (inb_in h538) (dcs_get dec_law_10 28 rfl) ?_
      refine lv_aload_n X.1.hx X.1.hb (dcs_get dec_law_10 29 rfl) rfl (lv_at hl 0 rfl) ?_
      refine lv_iload_n X.1.hx X.1.hb (dcs_get dec_law_10 30 rfl) rfl (lv_at hl 3 rfl) ?_
      refine lv_iconst (v := (2 : Int32)) X.1.hx X.1.hb (dcs_get dec_law_10 31 rfl) (by decide) ?_
      refine lv_iadd X.1.hx X.1.hb (dcs_get dec_law_10 32 rfl) ?_
      obtain ⟨h539, hf⟩ := cG_some hf
      refine va_sld X.1.hx X.1.hb X.2.2.2.1 X.2.2.2.2.1 (Nat.not_le.mpr X.2.2.2.2.1) w.2.2 (inb_in h539) (dcs_get dec_law_10 33 rfl) ?_
      obtain ⟨v541, σ542, h540, hf⟩ := cC_some hf
      refine a_i1 (k_V (K := kC) (c0 := 0) (As := [.int (xs (i + (1 : Int32)).toNatClampNeg), .int (xs (i + (2 : Int32)).toNatClampNeg)]) (rest := []) cls11 lb_X11_bestOrder lv_X11_bestOrder q_848 (C_X11_bestOrder X.1.2.2.1 0 (xs (i + (1 : Int32)).toNatClampNeg) (xs (i + (2 : Int32)).toNatClampNeg) σ h540 ok11) ⟨Nat.le_of_ble_eq_true rfl, Nat.le_of_ble_eq_true rfl⟩ X.1 ⟨w.1, w.2.2⟩ (okr_in ok11).1 (okr_in ok11).2 rfl rfl hl.1 (Nat.le_of_ble_eq_true rfl) (dcs_get dec_law_10 34 rfl) ⟨Nat.le_of_ble_eq_true rfl, Nat.le_of_ble_eq_true rfl⟩) X w (fun H locs w => ?_)
      refine lv_aload_n X.1.hx X.1.hb (dcs_get dec_law_10 35 rfl) rfl (lv_at hl 2 rfl) ?_
      refine lv_aload_n X.1.hx X.1.hb (dcs_get dec_law_10 36 rfl) rfl (lv_at hl 0 rfl) ?_
      refine lv_iload_n X.1.hx X.1.hb (dcs_get dec_law_10 37 rfl) rfl (lv_at hl 3 rfl) ?_
      refine lv_iconst (v := (1 : Int32)) X.1.hx X.1.hb (dcs_get dec_law_10 38 rfl) (by decide) ?_
      refine lv_iadd X.1.hx X.1.hb (dcs_get dec_law_10 39 rfl) ?_
      obtain ⟨h543, hf⟩ := cG_some hf
      refine va_sld X.1.hx X.1.hb X.2.2.2.1 X.2.2.2.2.1 (Nat.not_le.mpr X.2.2.2.2.1) w.2.2 (inb_in h543) (dcs_get dec_law_11 0 rfl) ?_
      refine lv_aload_n X.1.hx X.1.hb (dcs_get dec_law_11 1 rfl) rfl (lv_at hl 0 rfl) ?_
      refine lv_iload_n X.1.hx X.1.hb (dcs_get dec_law_11 2 rfl) rfl (lv_at hl 3 rfl) ?_
      refine lv_iconst (v := (2 : Int32)) X.1.hx X.1.hb (dcs_get dec_law_11 3 rfl) (by decide) ?_
      refine lv_iadd X.1.hx X.1.hb (dcs_get dec_law_11 4 rfl) ?_
      obtain ⟨h544, hf⟩ := cG_some hf
      refine va_sld X.1.hx X.1.hb X.2.2.2.1 X.2.2.2.2.1 (Nat.not_le.mpr X.2.2.2.2.1) w.2.2 (inb_in h544) (dcs_get dec_law_11 5 rfl) ?_
      obtain ⟨v546, τ547, h545, hf⟩ := cC_some hf
      refine a_i2 (k_V (K := kM) (c0 := 0) (As := [.int (xs (i + (1 : Int32)).toNatClampNeg), .int (xs (i + (2 : Int32)).toNatClampNeg)]) (rest := [.int v541]) cls12 lb_X12_bestOrder lv_X12_bestOrder q_1464 (C_X12_bestOrder X.2.1.2.2.1 0 (xs (i + (1 : Int32)).toNatClampNeg) (xs (i + (2 : Int32)).toNatClampNeg) τ h545 ok12) ⟨Nat.le_of_ble_eq_true rfl, Nat.le_of_ble_eq_true rfl⟩ X.2.1 ⟨w.2.1, w.2.2⟩ (okr_in ok12).1 (okr_in ok12).2 rfl rfl hl.1 (Nat.le_of_ble_eq_true rfl) (dcs_get dec_law_11 6 rfl) ⟨Nat.le_of_ble_eq_true rfl, Nat.le_of_ble_eq_true rfl⟩) X w (fun H locs w => ?_)
      refine lv_icmp_eq (tgt := 1160) X.1.hx X.1.hb (dcs_get dec_law_11 7 rfl) (by decide) (fun hc => ?_) (fun hc => ?_)
      · rw [if_pos hc] at hf
        obtain ⟨v548, e_v548, hf⟩ := cL_some hf
        refine lv_iinc (v := v548) (lv' := [(3, .int v548), (0, .ref b), (1, .ref (ad1 0)), (2, .ref (ad2 0))]) X.1.hx X.1.hb (dcs_get dec_law_20 18 rfl) hl (k := 3) rfl (by rw [e_v548]; rfl) (by decide) rfl (fun ls hl => ?_)
        refine lv_goto (tgt := 18) X.1.hx X.1.hb (dcs_get dec_law_20 19 rfl) (by decide) ?_
        exact hb (v548, σ542, τ547) (Option.some.inj hf).symm _ _ _ w (lv_sub hl [1, 2, 3, 0] rfl)
      · rw [if_neg hc] at hf
        refine lv_iconst (v := (0 : Int32)) X.1.hx X.1.hb (dcs_get dec_law_11 8 rfl) (by decide) ?_
        exact absurd (hr _ (Option.some.inj hf).symm) (by decide)
    rw [if_neg hc15] at hf
    by_cases hc16 : v348 = (16 : Int32)
    · rw [if_pos hc16] at hf
      refine r_tIn (k := (16 : Int32)) (tgt := 708) X.1.hx X.1.hb (dcs_get dec_law_0 21 rfl) hc16 (by decide) rfl (by decide) ?_
      refine lv_aload_n X.1.hx X.1.hb (dcs_get dec_law_11 10 rfl) rfl (lv_at hl 1 rfl) ?_
      refine lv_aload_n X.1.hx X.1.hb (dcs_get dec_law_11 11 rfl) rfl (lv_at hl 0 rfl) ?_
      refine lv_iload_n X.1.hx X.1.hb (dcs_get dec_law_11 12 rfl) rfl (lv_at hl 3 rfl) ?_
      refine lv_iconst (v := (1 : Int32)) X.1.hx X.1.hb (dcs_get dec_law_11 13 rfl) (by decide) ?_
      refine lv_iadd X.1.hx X.1.hb (dcs_get dec_law_11 14 rfl) ?_
      obtain ⟨h549, hf⟩ := cG_some hf
      refine va_sld X.1.hx X.1.hb X.2.2.2.1 X.2.2.2.2.1 (Nat.not_le.mpr X.2.2.2.2.1) w.2.2 (inb_in h549) (dcs_get dec_law_11 15 rfl) ?_
      refine lv_aload_n X.1.hx X.1.hb (dcs_get dec_law_11 16 rfl) rfl (lv_at hl 0 rfl) ?_
      refine lv_iload_n X.1.hx X.1.hb (dcs_get dec_law_11 17 rfl) rfl (lv_at hl 3 rfl) ?_
      refine lv_iconst (v := (2 : Int32)) X.1.hx X.1.hb (dcs_get dec_law_11 18 rfl) (by decide) ?_
      refine lv_iadd X.1.hx X.1.hb (dcs_get dec_law_11 19 rfl) ?_
      obtain ⟨h550, hf⟩ := cG_some hf
      refine va_sld X.1.hx X.1.hb X.2.2.2.1 X.2.2.2.2.1 (Nat.not_le.mpr X.2.2.2.2.1) w.2.2 (inb_in h550) (dcs_get dec_law_11 20 rfl) ?_
      refine lv_aload_n X.1.hx X.1.hb (dcs_get dec_law_11 21 rfl) rfl (lv_at hl 0 rfl) ?_
      refine lv_iload_n X.1.hx X.1.hb (dcs_get dec_law_11 22 rfl) rfl (lv_at hl 3 rfl) ?_
      refine lv_iconst (v := (3 : Int32)) X.1.hx X.1.hb (dcs_get dec_law_11 23 rfl) (by decide) ?_
      refine lv_iadd X.1.hx X.1.hb (dcs_get dec_law_11 24 rfl) ?_
      obtain ⟨h551, hf⟩ := cG_some hf
      refine va_sld X.1.hx X.1.hb X.2.2.2.1 X.2.2.2.2.1 (Nat.not_le.mpr X.2.2.2.2.1) w.2.2 (inb_in h551) (dcs_get dec_law_11 25 rfl) ?_
      obtain ⟨v553, σ554, h552, hf⟩ := cC_some hf
      refine a_i1 (k_V (K := kC) (c0 := 0) (As := [.int (xs (i + (1 : Int32)).toNatClampNeg), .int (xs (i + (2 : Int32)).toNatClampNeg), .int (xs (i + (3 : Int32)).toNatClampNeg)]) (rest := []) cls11 lb_X11_quiet lv_X11_quiet q_859 (C_X11_quiet X.1.2.2.1 0 (xs (i + (1 : Int32)).toNatClampNeg) (xs (i + (2 : Int32)).toNatClampNeg) (xs (i + (3 : Int32)).toNatClampNeg) σ h552 ok11) ⟨Nat.le_of_ble_eq_true rfl, Nat.le_of_ble_eq_true rfl⟩ X.1 ⟨w.1, w.2.2⟩ (okr_in ok11).1 (okr_in ok11).2 rfl rfl hl.1 (Nat.le_of_ble_eq_true rfl) (dcs_get dec_law_11 26 rfl) ⟨Nat.le_of_ble_eq_true rfl, Nat.le_of_ble_eq_true rfl⟩) X w (fun H locs w => ?_)
      refine lv_aload_n X.1.hx X.1.hb (dcs_get dec_law_11 27 rfl) rfl (lv_at hl 2 rfl) ?_
      refine lv_aload_n X.1.hx X.1.hb (dcs_get dec_law_11 28 rfl) rfl (lv_at hl 0 rfl) ?_
      refine lv_iload_n X.1.hx X.1.hb (dcs_get dec_law_11 29 rfl) rfl (lv_at hl 3 rfl) ?_
      refine lv_iconst (v := (1 : Int32)) X.1.hx X.1.hb (dcs_get dec_law_11 30 rfl) (by decide) ?_
      refine lv_iadd X.1.hx X.1.hb (dcs_get dec_law_11 31 rfl) ?_
      obtain ⟨h555, hf⟩ := cG_some hf
      refine va_sld X.1.hx X.1.hb X.2.2.2.1 X.2.2.2.2.1 (Nat.not_le.mpr X.2.2.2.2.1) w.2.2 (inb_in h555) (dcs_get dec_law_11 32 rfl) ?_
      refine lv_aload_n X.1.hx X.1.hb (dcs_get dec_law_11 33 rfl) rfl (lv_at hl 0 rfl) ?_
      refine lv_iload_n X.1.hx X.1.hb (dcs_get dec_law_11 34 rfl) rfl (lv_at hl 3 rfl) ?_
      refine lv_iconst (v := (2 : Int32)) X.1.hx X.1.hb (dcs_get dec_law_11 35 rfl) (by decide) ?_
      refine lv_iadd X.1.hx X.1.hb (dcs_get dec_law_11 36 rfl) ?_
      obtain ⟨h556, hf⟩ := cG_some hf
      refine va_sld X.1.hx X.1.hb X.2.2.2.1 X.2.2.2.2.1 (Nat.not_le.mpr X.2.2.2.2.1) w.2.2 (inb_in h556) (dcs_get dec_law_11 37 rfl) ?_
      refine lv_aload_n X.1.hx X.1.hb (dcs_get dec_law_11 38 rfl) rfl (lv_at hl 0 rfl) ?_
      refine lv_iload_n X.1.hx X.1.hb (dcs_get dec_law_11 39 rfl) rfl (lv_at hl 3 rfl) ?_
      refine lv_iconst (v := (3 : Int32)) X.1.hx X.1.hb (dcs_get dec_law_12 0 rfl) (by decide) ?_
      refine lv_iadd X.1.hx X.1.hb (dcs_get dec_law_12 1 rfl) ?_
      obtain ⟨h557, hf⟩ := cG_some hf
      refine va_sld X.1.hx X.1.hb X.2.2.2.1 X.2.2.2.2.1 (Nat.not_le.mpr X.2.2.2.2.1) w.2.2 (inb_in h557) (dcs_get dec_law_12 2 rfl) ?_
      obtain ⟨v559, τ560, h558, hf⟩ := cC_some hf
      refine a_i2 (k_V (K := kM) (c0 := 0) (As := [.int (xs (i + (1 : Int32)).toNatClampNeg), .int (xs (i + (2 : Int32)).toNatClampNeg), .int (xs (i + (3 : Int32)).toNatClampNeg)]) (rest := [.int v553]) cls12 lb_X12_quiet lv_X12_quiet q_1472 (C_X12_quiet X.2.1.2.2.1 0 (xs (i + (1 : Int32)).toNatClampNeg) (xs (i + (2 : Int32)).toNatClampNeg) (xs (i + (3 : Int32)).toNatClampNeg) τ h558 ok12) ⟨Nat.le_of_ble_eq_true rfl, Nat.le_of_ble_eq_true rfl⟩ X.2.1 ⟨w.2.1, w.2.2⟩ (okr_in ok12).1 (okr_in ok12).2 rfl rfl hl.1 (Nat.le_of_ble_eq_true rfl) (dcs_get dec_law_12 3 rfl) ⟨Nat.le_of_ble_eq_true rfl, Nat.le_of_ble_eq_true rfl⟩) X w (fun H locs w => ?_)
      refine lv_icmp_eq (tgt := 1160) X.1.hx X.1.hb (dcs_get dec_law_12 4 rfl) (by decide) (fun hc => ?_) (fun hc => ?_)
      · rw [if_pos hc] at hf
        obtain ⟨v561, e_v561, hf⟩ := cL_some hf
        refine lv_iinc (v := v561) (lv' := [(3, .int v561), (0, .ref b), (1, .ref (ad1 0)), (2, .ref (ad2 0))]) X.1.hx X.1.hb (dcs_get dec_law_20 18 rfl) hl (k := 3) rfl (by rw [e_v561]; rfl) (by decide) rfl (fun ls hl => ?_)
        refine lv_goto (tgt := 18) X.1.hx X.1.hb (dcs_get dec_law_20 19 rfl) (by decide) ?_
        exact hb (v561, σ554, τ560) (Option.some.inj hf).symm _ _ _ w (lv_sub hl [1, 2, 3, 0] rfl)
      · rw [if_neg hc] at hf
        refine lv_iconst (v := (0 : Int32)) X.1.hx X.1.hb (dcs_get dec_law_12 5 rfl) (by decide) ?_
        exact absurd (hr _ (Option.some.inj hf).symm) (by decide)
    rw [if_neg hc16] at hf
    by_cases hc17 : v348 = (17 : Int32)
    · rw [if_pos hc17] at hf
      refine r_tIn (k := (17 : Int32)) (tgt := 751) X.1.hx X.1.hb (dcs_get dec_law_0 21 rfl) hc17 (by decide) rfl (by decide) ?_
      refine lv_aload_n X.1.hx X.1.hb (dcs_get dec_law_12 7 rfl) rfl (lv_at hl 1 rfl) ?_
      refine lv_aload_n X.1.hx X.1.hb (dcs_get dec_law_12 8 rfl) rfl (lv_at hl 0 rfl) ?_
      refine lv_iload_n X.1.hx X.1.hb (dcs_get dec_law_12 9 rfl) rfl (lv_at hl 3 rfl) ?_
      refine lv_iconst (v := (1 : Int32)) X.1.hx X.1.hb (dcs_get dec_law_12 10 rfl) (by decide) ?_
      refine lv_iadd X.1.hx X.1.hb (dcs_get dec_law_12 11 rfl) ?_
      obtain ⟨h562, hf⟩ := cG_some hf
      refine va_sld X.1.hx X.1.hb X.2.2.2.1 X.2.2.2.2.1 (Nat.not_le.mpr X.2.2.2.2.1) w.2.2 (inb_in h562) (dcs_get dec_law_12 12 rfl) ?_
      refine lv_aload_n X.1.hx X.1.hb (dcs_get dec_law_12 13 rfl) rfl (lv_at hl 0 rfl) ?_
      refine lv_iload_n X.1.hx X.1.hb (dcs_get dec_law_12 14 rfl) rfl (lv_at hl 3 rfl) ?_
      refine lv_iconst (v := (2 : Int32)) X.1.hx X.1.hb (dcs_get dec_law_12 15 rfl) (by decide) ?_
      refine lv_iadd X.1.hx X.1.hb (dcs_get dec_law_12 16 rfl) ?_
      obtain ⟨h563, hf⟩ := cG_some hf
      refine va_sld X.1.hx X.1.hb X.2.2.2.1 X.2.2.2.2.1 (Nat.not_le.mpr X.2.2.2.2.1) w.2.2 (inb_in h563) (dcs_get dec_law_12 17 rfl) ?_
      obtain ⟨v565, σ566, h564, hf⟩ := cC_some hf
      refine a_i1 (k_V (K := kC) (c0 := 0) (As := [.int (xs (i + (1 : Int32)).toNatClampNeg), .int (xs (i + (2 : Int32)).toNatClampNeg)]) (rest := []) cls11 lb_X11_soonest lv_X11_soonest q_863 (C_X11_soonest X.1.2.2.1 0 (xs (i + (1 : Int32)).toNatClampNeg) (xs (i + (2 : Int32)).toNatClampNeg) σ h564 ok11) ⟨Nat.le_of_ble_eq_true rfl, Nat.le_of_ble_eq_true rfl⟩ X.1 ⟨w.1, w.2.2⟩ (okr_in ok11).1 (okr_in ok11).2 rfl rfl hl.1 (Nat.le_of_ble_eq_true rfl) (dcs_get dec_law_12 18 rfl) ⟨Nat.le_of_ble_eq_true rfl, Nat.le_of_ble_eq_true rfl⟩) X w (fun H locs w => ?_)
      refine lv_aload_n X.1.hx X.1.hb (dcs_get dec_law_12 19 rfl) rfl (lv_at hl 2 rfl) ?_
      refine lv_aload_n X.1.hx X.1.hb (dcs_get dec_law_12 20 rfl) rfl (lv_at hl 0 rfl) ?_
      refine lv_iload_n X.1.hx X.1.hb (dcs_get dec_law_12 21 rfl) rfl (lv_at hl 3 rfl) ?_
      refine lv_iconst (v := (1 : Int32)) X.1.hx X.1.hb (dcs_get dec_law_12 22 rfl) (by decide) ?_
      refine lv_iadd X.1.hx X.1.hb (dcs_get dec_law_12 23 rfl) ?_
      obtain ⟨h567, hf⟩ := cG_some hf
      refine va_sld X.1.hx X.1.hb X.2.2.2.1 X.2.2.2.2.1 (Nat.not_le.mpr X.2.2.2.2.1) w.2.2 (inb_in h567) (dcs_get dec_law_12 24 rfl) ?_
      refine lv_aload_n X.1.hx X.1.hb (dcs_get dec_law_12 25 rfl) rfl (lv_at hl 0 rfl) ?_
      refine lv_iload_n X.1.hx X.1.hb (dcs_get dec_law_12 26 rfl) rfl (lv_at hl 3 rfl) ?_
      refine lv_iconst (v := (2 : Int32)) X.1.hx X.1.hb (dcs_get dec_law_12 27 rfl) (by decide) ?_
      refine lv_iadd X.1.hx X.1.hb (dcs_get dec_law_12 28 rfl) ?_
      obtain ⟨h568, hf⟩ := cG_some hf
      refine va_sld X.1.hx X.1.hb X.2.2.2.1 X.2.2.2.2.1 (Nat.not_le.mpr X.2.2.2.2.1) w.2.2 (inb_in h568) (dcs_get dec_law_12 29 rfl) ?_
      obtain ⟨v570, τ571, h569, hf⟩ := cC_some hf
      refine a_i2 (k_V (K := kM) (c0 := 0) (As := [.int (xs (i + (1 : Int32)).toNatClampNeg), .int (xs (i + (2 : Int32)).toNatClampNeg)]) (rest := [.int v565]) cls12 lb_X12_soonest lv_X12_soonest q_1476 (C_X12_soonest X.2.1.2.2.1 0 (xs (i + (1 : Int32)).toNatClampNeg) (xs (i + (2 : Int32)).toNatClampNeg) τ h569 ok12) ⟨Nat.le_of_ble_eq_true rfl, Nat.le_of_ble_eq_true rfl⟩ X.2.1 ⟨w.2.1, w.2.2⟩ (okr_in ok12).1 (okr_in ok12).2 rfl rfl hl.1 (Nat.le_of_ble_eq_true rfl) (dcs_get dec_law_12 30 rfl) ⟨Nat.le_of_ble_eq_true rfl, Nat.le_of_ble_eq_true rfl⟩) X w (fun H locs w => ?_)
      refine lv_icmp_eq (tgt := 1160) X.1.hx X.1.hb (dcs_get dec_law_12 31 rfl) (by decide) (fun hc => ?_) (fun hc => ?_)
      · rw [if_pos hc] at hf
        obtain ⟨v572, e_v572, hf⟩ := cL_some hf
        refine lv_iinc (v := v572) (lv' := [(3, .int v572), (0, .ref b), (1, .ref (ad1 0)), (2, .ref (ad2 0))]) X.1.hx X.1.hb (dcs_get dec_law_20 18 rfl) hl (k := 3) rfl (by rw [e_v572]; rfl) (by decide) rfl (fun ls hl => ?_)
        refine lv_goto (tgt := 18) X.1.hx X.1.hb (dcs_get dec_law_20 19 rfl) (by decide) ?_
        exact hb (v572, σ566, τ571) (Option.some.inj hf).symm _ _ _ w (lv_sub hl [1, 2, 3, 0] rfl)
      · rw [if_neg hc] at hf
        refine lv_iconst (v := (0 : Int32)) X.1.hx X.1.hb (dcs_get dec_law_12 32 rfl) (by decide) ?_
        exact absurd (hr _ (Option.some.inj hf).symm) (by decide)
    rw [if_neg hc17] at hf
    by_cases hc18 : v348 = (18 : Int32)
    · rw [if_pos hc18] at hf
      refine r_tIn (k := (18 : Int32)) (tgt := 784) X.1.hx X.1.hb (dcs_get dec_law_0 21 rfl) hc18 (by decide) rfl (by decide) ?_
      refine lv_aload_n X.1.hx X.1.hb (dcs_get dec_law_12 34 rfl) rfl (lv_at hl 1 rfl) ?_
      refine lv_aload_n X.1.hx X.1.hb (dcs_get dec_law_12 35 rfl) rfl (lv_at hl 0 rfl) ?_
      refine lv_iload_n X.1.hx X.1.hb (dcs_get dec_law_12 36 rfl) rfl (lv_at hl 3 rfl) ?_
      refine lv_iconst (v := (1 : Int32)) X.1.hx X.1.hb (dcs_get dec_law_12 37 rfl) (by decide) ?_
      refine lv_iadd X.1.hx X.1.hb (dcs_get dec_law_12 38 rfl) ?_
      obtain ⟨h573, hf⟩ := cG_some hf
      refine va_sld X.1.hx X.1.hb X.2.2.2.1 X.2.2.2.2.1 (Nat.not_le.mpr X.2.2.2.2.1) w.2.2 (inb_in h573) (dcs_get dec_law_12 39 rfl) ?_
      obtain ⟨v575, σ576, h574, hf⟩ := cC_some hf
      refine a_i1 (k_V (K := kC) (c0 := 0) (As := [.int (xs (i + (1 : Int32)).toNatClampNeg)]) (rest := []) cls11 lb_X11_all lv_X11_all q_890 (C_X11_all X.1.2.2.1 0 (xs (i + (1 : Int32)).toNatClampNeg) σ h574 ok11) ⟨Nat.le_of_ble_eq_true rfl, Nat.le_of_ble_eq_true rfl⟩ X.1 ⟨w.1, w.2.2⟩ (okr_in ok11).1 (okr_in ok11).2 rfl rfl hl.1 (Nat.le_of_ble_eq_true rfl) (dcs_get dec_law_13 0 rfl) ⟨Nat.le_of_ble_eq_true rfl, Nat.le_of_ble_eq_true rfl⟩) X w (fun H locs w => ?_)
      refine lv_aload_n X.1.hx X.1.hb (dcs_get dec_law_13 1 rfl) rfl (lv_at hl 2 rfl) ?_
      refine lv_aload_n X.1.hx X.1.hb (dcs_get dec_law_13 2 rfl) rfl (lv_at hl 0 rfl) ?_
      refine lv_iload_n X.1.hx X.1.hb (dcs_get dec_law_13 3 rfl) rfl (lv_at hl 3 rfl) ?_
      refine lv_iconst (v := (1 : Int32)) X.1.hx X.1.hb (dcs_get dec_law_13 4 rfl) (by decide) ?_
      refine lv_iadd X.1.hx X.1.hb (dcs_get dec_law_13 5 rfl) ?_
      obtain ⟨h577, hf⟩ := cG_some hf
      refine va_sld X.1.hx X.1.hb X.2.2.2.1 X.2.2.2.2.1 (Nat.not_le.mpr X.2.2.2.2.1) w.2.2 (inb_in h577) (dcs_get dec_law_13 6 rfl) ?_
      obtain ⟨v579, τ580, h578, hf⟩ := cC_some hf
      refine a_i2 (k_V (K := kM) (c0 := 0) (As := [.int (xs (i + (1 : Int32)).toNatClampNeg)]) (rest := [.int v575]) cls12 lb_X12_all lv_X12_all q_1507 (C_X12_all X.2.1.2.2.1 0 (xs (i + (1 : Int32)).toNatClampNeg) τ h578 ok12) ⟨Nat.le_of_ble_eq_true rfl, Nat.le_of_ble_eq_true rfl⟩ X.2.1 ⟨w.2.1, w.2.2⟩ (okr_in ok12).1 (okr_in ok12).2 rfl rfl hl.1 (Nat.le_of_ble_eq_true rfl) (dcs_get dec_law_13 7 rfl) ⟨Nat.le_of_ble_eq_true rfl, Nat.le_of_ble_eq_true rfl⟩) X w (fun H locs w => ?_)
      refine lv_icmp_eq (tgt := 1160) X.1.hx X.1.hb (dcs_get dec_law_13 8 rfl) (by decide) (fun hc => ?_) (fun hc => ?_)
      · rw [if_pos hc] at hf
        obtain ⟨v581, e_v581, hf⟩ := cL_some hf
        refine lv_iinc (v := v581) (lv' := [(3, .int v581), (0, .ref b), (1, .ref (ad1 0)), (2, .ref (ad2 0))]) X.1.hx X.1.hb (dcs_get dec_law_20 18 rfl) hl (k := 3) rfl (by rw [e_v581]; rfl) (by decide) rfl (fun ls hl => ?_)
        refine lv_goto (tgt := 18) X.1.hx X.1.hb (dcs_get dec_law_20 19 rfl) (by decide) ?_
        exact hb (v581, σ576, τ580) (Option.some.inj hf).symm _ _ _ w (lv_sub hl [1, 2, 3, 0] rfl)
      · rw [if_neg hc] at hf
        refine lv_iconst (v := (0 : Int32)) X.1.hx X.1.hb (dcs_get dec_law_13 9 rfl) (by decide) ?_
        exact absurd (hr _ (Option.some.inj hf).symm) (by decide)
    rw [if_neg hc18] at hf
    by_cases hc19 : v348 = (19 : Int32)
    · rw [if_pos hc19] at hf
      refine r_tIn (k := (19 : Int32)) (tgt := 807) X.1.hx X.1.hb (dcs_get dec_law_0 21 rfl) hc19 (by decide) rfl (by decide) ?_
      refine lv_aload_n X.1.hx X.1.hb (dcs_get dec_law_13 11 rfl) rfl (lv_at hl 1 rfl) ?_
      refine lv_aload_n X.1.hx X.1.hb (dcs_get dec_law_13 12 rfl) rfl (lv_at hl 0 rfl) ?_
      refine lv_iload_n X.1.hx X.1.hb (dcs_get dec_law_13 13 rfl) rfl (lv_at hl 3 rfl) ?_
      refine lv_iconst (v := (1 : Int32)) X.1.hx X.1.hb (dcs_get dec_law_13 14 rfl) (by decide) ?_
      refine lv_iadd X.1.hx X.1.hb (dcs_get dec_law_13 15 rfl) ?_
      obtain ⟨h582, hf⟩ := cG_some hf
      refine va_sld X.1.hx X.1.hb X.2.2.2.1 X.2.2.2.2.1 (Nat.not_le.mpr X.2.2.2.2.1) w.2.2 (inb_in h582) (dcs_get dec_law_13 16 rfl) ?_
      obtain ⟨v584, σ585, h583, hf⟩ := cC_some hf
      refine a_i1 (k_V (K := kC) (c0 := 0) (As := [.int (xs (i + (1 : Int32)).toNatClampNeg)]) (rest := []) cls11 lb_X11_drums lv_X11_drums q_894 (C_X11_drums X.1.2.2.1 0 (xs (i + (1 : Int32)).toNatClampNeg) σ h583 ok11) ⟨Nat.le_of_ble_eq_true rfl, Nat.le_of_ble_eq_true rfl⟩ X.1 ⟨w.1, w.2.2⟩ (okr_in ok11).1 (okr_in ok11).2 rfl rfl hl.1 (Nat.le_of_ble_eq_true rfl) (dcs_get dec_law_13 17 rfl) ⟨Nat.le_of_ble_eq_true rfl, Nat.le_of_ble_eq_true rfl⟩) X w (fun H locs w => ?_)
      refine lv_aload_n X.1.hx X.1.hb (dcs_get dec_law_13 18 rfl) rfl (lv_at hl 2 rfl) ?_
      refine lv_aload_n X.1.hx X.1.hb (dcs_get dec_law_13 19 rfl) rfl (lv_at hl 0 rfl) ?_
      refine lv_iload_n X.1.hx X.1.hb (dcs_get dec_law_13 20 rfl) rfl (lv_at hl 3 rfl) ?_
      refine lv_iconst (v := (1 : Int32)) X.1.hx X.1.hb (dcs_get dec_law_13 21 rfl) (by decide) ?_
      refine lv_iadd X.1.hx X.1.hb (dcs_get dec_law_13 22 rfl) ?_
      obtain ⟨h586, hf⟩ := cG_some hf
      refine va_sld X.1.hx X.1.hb X.2.2.2.1 X.2.2.2.2.1 (Nat.not_le.mpr X.2.2.2.2.1) w.2.2 (inb_in h586) (dcs_get dec_law_13 23 rfl) ?_
      obtain ⟨v588, τ589, h587, hf⟩ := cC_some hf
      refine a_i2 (k_V (K := kM) (c0 := 0) (As := [.int (xs (i + (1 : Int32)).toNatClampNeg)]) (rest := [.int v584]) cls12 lb_X12_drums lv_X12_drums q_1511 (C_X12_drums X.2.1.2.2.1 0 (xs (i + (1 : Int32)).toNatClampNeg) τ h587 ok12) ⟨Nat.le_of_ble_eq_true rfl, Nat.le_of_ble_eq_true rfl⟩ X.2.1 ⟨w.2.1, w.2.2⟩ (okr_in ok12).1 (okr_in ok12).2 rfl rfl hl.1 (Nat.le_of_ble_eq_true rfl) (dcs_get dec_law_13 24 rfl) ⟨Nat.le_of_ble_eq_true rfl, Nat.le_of_ble_eq_true rfl⟩) X w (fun H locs w => ?_)
      refine lv_icmp_eq (tgt := 1160) X.1.hx X.1.hb (dcs_get dec_law_13 25 rfl) (by decide) (fun hc => ?_) (fun hc => ?_)
      · rw [if_pos hc] at hf
        obtain ⟨v590, e_v590, hf⟩ := cL_some hf
        refine lv_iinc (v := v590) (lv' := [(3, .int v590), (0, .ref b), (1, .ref (ad1 0)), (2, .ref (ad2 0))]) X.1.hx X.1.hb (dcs_get dec_law_20 18 rfl) hl (k := 3) rfl (by rw [e_v590]; rfl) (by decide) rfl (fun ls hl => ?_)
        refine lv_goto (tgt := 18) X.1.hx X.1.hb (dcs_get dec_law_20 19 rfl) (by decide) ?_
        exact hb (v590, σ585, τ589) (Option.some.inj hf).symm _ _ _ w (lv_sub hl [1, 2, 3, 0] rfl)
      · rw [if_neg hc] at hf
        refine lv_iconst (v := (0 : Int32)) X.1.hx X.1.hb (dcs_get dec_law_13 26 rfl) (by decide) ?_
        exact absurd (hr _ (Option.some.inj hf).symm) (by decide)
    rw [if_neg hc19] at hf
    by_cases hc20 : v348 = (20 : Int32)
    · rw [if_pos hc20] at hf
      refine r_tIn (k := (20 : Int32)) (tgt := 830) X.1.hx X.1.hb (dcs_get dec_law_0 21 rfl) hc20 (by decide) rfl (by decide) ?_
      refine lv_aload_n X.1.hx X.1.hb (dcs_get dec_law_13 28 rfl) rfl (lv_at hl 1 rfl) ?_
      refine lv_aload_n X.1.hx X.1.hb (dcs_get dec_law_13 29 rfl) rfl (lv_at hl 0 rfl) ?_
      refine lv_iload_n X.1.hx X.1.hb (dcs_get dec_law_13 30 rfl) rfl (lv_at hl 3 rfl) ?_
      refine lv_iconst (v := (1 : Int32)) X.1.hx X.1.hb (dcs_get dec_law_13 31 rfl) (by decide) ?_
      refine lv_iadd X.1.hx X.1.hb (dcs_get dec_law_13 32 rfl) ?_
      obtain ⟨h591, hf⟩ := cG_some hf
      refine va_sld X.1.hx X.1.hb X.2.2.2.1 X.2.2.2.2.1 (Nat.not_le.mpr X.2.2.2.2.1) w.2.2 (inb_in h591) (dcs_get dec_law_13 33 rfl) ?_
      refine lv_aload_n X.1.hx X.1.hb (dcs_get dec_law_13 34 rfl) rfl (lv_at hl 0 rfl) ?_
      refine lv_iload_n X.1.hx X.1.hb (dcs_get dec_law_13 35 rfl) rfl (lv_at hl 3 rfl) ?_
      refine lv_iconst (v := (2 : Int32)) X.1.hx X.1.hb (dcs_get dec_law_13 36 rfl) (by decide) ?_
      refine lv_iadd X.1.hx X.1.hb (dcs_get dec_law_13 37 rfl) ?_
      obtain ⟨h592, hf⟩ := cG_some hf
      refine va_sld X.1.hx X.1.hb X.2.2.2.1 X.2.2.2.2.1 (Nat.not_le.mpr X.2.2.2.2.1) w.2.2 (inb_in h592) (dcs_get dec_law_13 38 rfl) ?_
      refine lv_aload_n X.1.hx X.1.hb (dcs_get dec_law_13 39 rfl) rfl (lv_at hl 0 rfl) ?_
      refine lv_iload_n X.1.hx X.1.hb (dcs_get dec_law_14 0 rfl) rfl (lv_at hl 3 rfl) ?_
      refine lv_iconst (v := (3 : Int32)) X.1.hx X.1.hb (dcs_get dec_law_14 1 rfl) (by decide) ?_
      refine lv_iadd X.1.hx X.1.hb (dcs_get dec_law_14 2 rfl) ?_
      obtain ⟨h593, hf⟩ := cG_some hf
      refine va_sld X.1.hx X.1.hb X.2.2.2.1 X.2.2.2.2.1 (Nat.not_le.mpr X.2.2.2.2.1) w.2.2 (inb_in h593) (dcs_get dec_law_14 3 rfl) ?_
      obtain ⟨v595, σ596, h594, hf⟩ := cC_some hf
      refine a_i1 (k_V (K := kC) (c0 := 0) (As := [.int (xs (i + (1 : Int32)).toNatClampNeg), .int (xs (i + (2 : Int32)).toNatClampNeg), .int (xs (i + (3 : Int32)).toNatClampNeg)]) (rest := []) cls11 lb_X11_loophole lv_X11_loophole q_911 (C_X11_loophole X.1.2.2.1 0 (xs (i + (1 : Int32)).toNatClampNeg) (xs (i + (2 : Int32)).toNatClampNeg) (xs (i + (3 : Int32)).toNatClampNeg) σ h594 ok11) ⟨Nat.le_of_ble_eq_true rfl, Nat.le_of_ble_eq_true rfl⟩ X.1 ⟨w.1, w.2.2⟩ (okr_in ok11).1 (okr_in ok11).2 rfl rfl hl.1 (Nat.le_of_ble_eq_true rfl) (dcs_get dec_law_14 4 rfl) ⟨Nat.le_of_ble_eq_true rfl, Nat.le_of_ble_eq_true rfl⟩) X w (fun H locs w => ?_)
      refine lv_aload_n X.1.hx X.1.hb (dcs_get dec_law_14 5 rfl) rfl (lv_at hl 2 rfl) ?_
      refine lv_aload_n X.1.hx X.1.hb (dcs_get dec_law_14 6 rfl) rfl (lv_at hl 0 rfl) ?_
      refine lv_iload_n X.1.hx X.1.hb (dcs_get dec_law_14 7 rfl) rfl (lv_at hl 3 rfl) ?_
      refine lv_iconst (v := (1 : Int32)) X.1.hx X.1.hb (dcs_get dec_law_14 8 rfl) (by decide) ?_
      refine lv_iadd X.1.hx X.1.hb (dcs_get dec_law_14 9 rfl) ?_
      obtain ⟨h597, hf⟩ := cG_some hf
      refine va_sld X.1.hx X.1.hb X.2.2.2.1 X.2.2.2.2.1 (Nat.not_le.mpr X.2.2.2.2.1) w.2.2 (inb_in h597) (dcs_get dec_law_14 10 rfl) ?_
      refine lv_aload_n X.1.hx X.1.hb (dcs_get dec_law_14 11 rfl) rfl (lv_at hl 0 rfl) ?_
      refine lv_iload_n X.1.hx X.1.hb (dcs_get dec_law_14 12 rfl) rfl (lv_at hl 3 rfl) ?_
      refine lv_iconst (v := (2 : Int32)) X.1.hx X.1.hb (dcs_get dec_law_14 13 rfl) (by decide) ?_
      refine lv_iadd X.1.hx X.1.hb (dcs_get dec_law_14 14 rfl) ?_
      obtain ⟨h598, hf⟩ := cG_some hf
      refine va_sld X.1.hx X.1.hb X.2.2.2.1 X.2.2.2.2.1 (Nat.not_le.mpr X.2.2.2.2.1) w.2.2 (inb_in h598) (dcs_get dec_law_14 15 rfl) ?_
      refine lv_aload_n X.1.hx X.1.hb (dcs_get dec_law_14 16 rfl) rfl (lv_at hl 0 rfl) ?_
      refine lv_iload_n X.1.hx X.1.hb (dcs_get dec_law_14 17 rfl) rfl (lv_at hl 3 rfl) ?_
      refine lv_iconst (v := (3 : Int32)) X.1.hx X.1.hb (dcs_get dec_law_14 18 rfl) (by decide) ?_
      refine lv_iadd X.1.hx X.1.hb (dcs_get dec_law_14 19 rfl) ?_
      obtain ⟨h599, hf⟩ := cG_some hf
      refine va_sld X.1.hx X.1.hb X.2.2.2.1 X.2.2.2.2.1 (Nat.not_le.mpr X.2.2.2.2.1) w.2.2 (inb_in h599) (dcs_get dec_law_14 20 rfl) ?_
      obtain ⟨v601, τ602, h600, hf⟩ := cC_some hf
      refine a_i2 (k_V (K := kM) (c0 := 0) (As := [.int (xs (i + (1 : Int32)).toNatClampNeg), .int (xs (i + (2 : Int32)).toNatClampNeg), .int (xs (i + (3 : Int32)).toNatClampNeg)]) (rest := [.int v595]) cls12 lb_X12_loophole lv_X12_loophole q_1515 (C_X12_loophole X.2.1.2.2.1 0 (xs (i + (1 : Int32)).toNatClampNeg) (xs (i + (2 : Int32)).toNatClampNeg) (xs (i + (3 : Int32)).toNatClampNeg) τ h600 ok12) ⟨Nat.le_of_ble_eq_true rfl, Nat.le_of_ble_eq_true rfl⟩ X.2.1 ⟨w.2.1, w.2.2⟩ (okr_in ok12).1 (okr_in ok12).2 rfl rfl hl.1 (Nat.le_of_ble_eq_true rfl) (dcs_get dec_law_14 21 rfl) ⟨Nat.le_of_ble_eq_true rfl, Nat.le_of_ble_eq_true rfl⟩) X w (fun H locs w => ?_)
      refine lv_icmp_eq (tgt := 1160) X.1.hx X.1.hb (dcs_get dec_law_14 22 rfl) (by decide) (fun hc => ?_) (fun hc => ?_)
      · rw [if_pos hc] at hf
        obtain ⟨v603, e_v603, hf⟩ := cL_some hf
        refine lv_iinc (v := v603) (lv' := [(3, .int v603), (0, .ref b), (1, .ref (ad1 0)), (2, .ref (ad2 0))]) X.1.hx X.1.hb (dcs_get dec_law_20 18 rfl) hl (k := 3) rfl (by rw [e_v603]; rfl) (by decide) rfl (fun ls hl => ?_)
        refine lv_goto (tgt := 18) X.1.hx X.1.hb (dcs_get dec_law_20 19 rfl) (by decide) ?_
        exact hb (v603, σ596, τ602) (Option.some.inj hf).symm _ _ _ w (lv_sub hl [1, 2, 3, 0] rfl)
      · rw [if_neg hc] at hf
        refine lv_iconst (v := (0 : Int32)) X.1.hx X.1.hb (dcs_get dec_law_14 23 rfl) (by decide) ?_
        exact absurd (hr _ (Option.some.inj hf).symm) (by decide)
    rw [if_neg hc20] at hf
    by_cases hc21 : v348 = (21 : Int32)
    · rw [if_pos hc21] at hf
      refine r_tIn (k := (21 : Int32)) (tgt := 873) X.1.hx X.1.hb (dcs_get dec_law_0 21 rfl) hc21 (by decide) rfl (by decide) ?_
      refine lv_aload_n X.1.hx X.1.hb (dcs_get dec_law_14 25 rfl) rfl (lv_at hl 1 rfl) ?_
      refine lv_aload_n X.1.hx X.1.hb (dcs_get dec_law_14 26 rfl) rfl (lv_at hl 0 rfl) ?_
      refine lv_iload_n X.1.hx X.1.hb (dcs_get dec_law_14 27 rfl) rfl (lv_at hl 3 rfl) ?_
      refine lv_iconst (v := (1 : Int32)) X.1.hx X.1.hb (dcs_get dec_law_14 28 rfl) (by decide) ?_
      refine lv_iadd X.1.hx X.1.hb (dcs_get dec_law_14 29 rfl) ?_
      obtain ⟨h604, hf⟩ := cG_some hf
      refine va_sld X.1.hx X.1.hb X.2.2.2.1 X.2.2.2.2.1 (Nat.not_le.mpr X.2.2.2.2.1) w.2.2 (inb_in h604) (dcs_get dec_law_14 30 rfl) ?_
      refine lv_aload_n X.1.hx X.1.hb (dcs_get dec_law_14 31 rfl) rfl (lv_at hl 0 rfl) ?_
      refine lv_iload_n X.1.hx X.1.hb (dcs_get dec_law_14 32 rfl) rfl (lv_at hl 3 rfl) ?_
      refine lv_iconst (v := (2 : Int32)) X.1.hx X.1.hb (dcs_get dec_law_14 33 rfl) (by decide) ?_
      refine lv_iadd X.1.hx X.1.hb (dcs_get dec_law_14 34 rfl) ?_
      obtain ⟨h605, hf⟩ := cG_some hf
      refine va_sld X.1.hx X.1.hb X.2.2.2.1 X.2.2.2.2.1 (Nat.not_le.mpr X.2.2.2.2.1) w.2.2 (inb_in h605) (dcs_get dec_law_14 35 rfl) ?_
      refine lv_aload_n X.1.hx X.1.hb (dcs_get dec_law_14 36 rfl) rfl (lv_at hl 0 rfl) ?_
      refine lv_iload_n X.1.hx X.1.hb (dcs_get dec_law_14 37 rfl) rfl (lv_at hl 3 rfl) ?_
      refine lv_iconst (v := (3 : Int32)) X.1.hx X.1.hb (dcs_get dec_law_14 38 rfl) (by decide) ?_
      refine lv_iadd X.1.hx X.1.hb (dcs_get dec_law_14 39 rfl) ?_
      obtain ⟨h606, hf⟩ := cG_some hf
      refine va_sld X.1.hx X.1.hb X.2.2.2.1 X.2.2.2.2.1 (Nat.not_le.mpr X.2.2.2.2.1) w.2.2 (inb_in h606) (dcs_get dec_law_15 0 rfl) ?_
      refine lv_aload_n X.1.hx X.1.hb (dcs_get dec_law_15 1 rfl) rfl (lv_at hl 0 rfl) ?_
      refine lv_iload_n X.1.hx X.1.hb (dcs_get dec_law_15 2 rfl) rfl (lv_at hl 3 rfl) ?_
      refine lv_iconst (v := (4 : Int32)) X.1.hx X.1.hb (dcs_get dec_law_15 3 rfl) (by decide) ?_
      refine lv_iadd X.1.hx X.1.hb (dcs_get dec_law_15 4 rfl) ?_
      obtain ⟨h607, hf⟩ := cG_some hf
      refine va_sld X.1.hx X.1.hb X.2.2.2.1 X.2.2.2.2.1 (Nat.not_le.mpr X.2.2.2.2.1) w.2.2 (inb_in h607) (dcs_get dec_law_15 5 rfl) ?_
      obtain ⟨v609, σ610, h608, hf⟩ := cC_some hf
      refine a_i1 (k_V (K := kC) (c0 := 0) (As := [.int (xs (i + (1 : Int32)).toNatClampNeg), .int (xs (i + (2 : Int32)).toNatClampNeg), .int (xs (i + (3 : Int32)).toNatClampNeg), .int (xs (i + (4 : Int32)).toNatClampNeg)]) (rest := []) cls11 lb_X11_loopholeAt lv_X11_loopholeAt q_935 (C_X11_loopholeAt X.1.2.2.1 0 (xs (i + (1 : Int32)).toNatClampNeg) (xs (i + (2 : Int32)).toNatClampNeg) (xs (i + (3 : Int32)).toNatClampNeg) (xs (i + (4 : Int32)).toNatClampNeg) σ h608 ok11) ⟨Nat.le_of_ble_eq_true rfl, Nat.le_of_ble_eq_true rfl⟩ X.1 ⟨w.1, w.2.2⟩ (okr_in ok11).1 (okr_in ok11).2 rfl rfl hl.1 (Nat.le_of_ble_eq_true rfl) (dcs_get dec_law_15 6 rfl) ⟨Nat.le_of_ble_eq_true rfl, Nat.le_of_ble_eq_true rfl⟩) X w (fun H locs w => ?_)
      refine lv_aload_n X.1.hx X.1.hb (dcs_get dec_law_15 7 rfl) rfl (lv_at hl 2 rfl) ?_
      refine lv_aload_n X.1.hx X.1.hb (dcs_get dec_law_15 8 rfl) rfl (lv_at hl 0 rfl) ?_
      refine lv_iload_n X.1.hx X.1.hb (dcs_get dec_law_15 9 rfl) rfl (lv_at hl 3 rfl) ?_
      refine lv_iconst (v := (1 : Int32)) X.1.hx X.1.hb (dcs_get dec_law_15 10 rfl) (by decide) ?_
      refine lv_iadd X.1.hx X.1.hb (dcs_get dec_law_15 11 rfl) ?_
      obtain ⟨h611, hf⟩ := cG_some hf
      refine va_sld X.1.hx X.1.hb X.2.2.2.1 X.2.2.2.2.1 (Nat.not_le.mpr X.2.2.2.2.1) w.2.2 (inb_in h611) (dcs_get dec_law_15 12 rfl) ?_
      refine lv_aload_n X.1.hx X.1.hb (dcs_get dec_law_15 13 rfl) rfl (lv_at hl 0 rfl) ?_
      refine lv_iload_n X.1.hx X.1.hb (dcs_get dec_law_15 14 rfl) rfl (lv_at hl 3 rfl) ?_
      refine lv_iconst (v := (2 : Int32)) X.1.hx X.1.hb (dcs_get dec_law_15 15 rfl) (by decide) ?_
      refine lv_iadd X.1.hx X.1.hb (dcs_get dec_law_15 16 rfl) ?_
      obtain ⟨h612, hf⟩ := cG_some hf
      refine va_sld X.1.hx X.1.hb X.2.2.2.1 X.2.2.2.2.1 (Nat.not_le.mpr X.2.2.2.2.1) w.2.2 (inb_in h612) (dcs_get dec_law_15 17 rfl) ?_
      refine lv_aload_n X.1.hx X.1.hb (dcs_get dec_law_15 18 rfl) rfl (lv_at hl 0 rfl) ?_
      refine lv_iload_n X.1.hx X.1.hb (dcs_get dec_law_15 19 rfl) rfl (lv_at hl 3 rfl) ?_
      refine lv_iconst (v := (3 : Int32)) X.1.hx X.1.hb (dcs_get dec_law_15 20 rfl) (by decide) ?_
      refine lv_iadd X.1.hx X.1.hb (dcs_get dec_law_15 21 rfl) ?_
      obtain ⟨h613, hf⟩ := cG_some hf
      refine va_sld X.1.hx X.1.hb X.2.2.2.1 X.2.2.2.2.1 (Nat.not_le.mpr X.2.2.2.2.1) w.2.2 (inb_in h613) (dcs_get dec_law_15 22 rfl) ?_
      refine lv_aload_n X.1.hx X.1.hb (dcs_get dec_law_15 23 rfl) rfl (lv_at hl 0 rfl) ?_
      refine lv_iload_n X.1.hx X.1.hb (dcs_get dec_law_15 24 rfl) rfl (lv_at hl 3 rfl) ?_
      refine lv_iconst (v := (4 : Int32)) X.1.hx X.1.hb (dcs_get dec_law_15 25 rfl) (by decide) ?_
      refine lv_iadd X.1.hx X.1.hb (dcs_get dec_law_15 26 rfl) ?_
      obtain ⟨h614, hf⟩ := cG_some hf
      refine va_sld X.1.hx X.1.hb X.2.2.2.1 X.2.2.2.2.1 (Nat.not_le.mpr X.2.2.2.2.1) w.2.2 (inb_in h614) (dcs_get dec_law_15 27 rfl) ?_
      obtain ⟨v616, τ617, h615, hf⟩ := cC_some hf
      refine a_i2 (k_V (K := kM) (c0 := 0) (As := [.int (xs (i + (1 : Int32)).toNatClampNeg), .int (xs (i + (2 : Int32)).toNatClampNeg), .int (xs (i + (3 : Int32)).toNatClampNeg), .int (xs (i + (4 : Int32)).toNatClampNeg)]) (rest := [.int v609]) cls12 lb_X12_loopholeAt lv_X12_loopholeAt q_1535 (C_X12_loopholeAt X.2.1.2.2.1 0 (xs (i + (1 : Int32)).toNatClampNeg) (xs (i + (2 : Int32)).toNatClampNeg) (xs (i + (3 : Int32)).toNatClampNeg) (xs (i + (4 : Int32)).toNatClampNeg) τ h615 ok12) ⟨Nat.le_of_ble_eq_true rfl, Nat.le_of_ble_eq_true rfl⟩ X.2.1 ⟨w.2.1, w.2.2⟩ (okr_in ok12).1 (okr_in ok12).2 rfl rfl hl.1 (Nat.le_of_ble_eq_true rfl) (dcs_get dec_law_15 28 rfl) ⟨Nat.le_of_ble_eq_true rfl, Nat.le_of_ble_eq_true rfl⟩) X w (fun H locs w => ?_)
      refine lv_icmp_eq (tgt := 1160) X.1.hx X.1.hb (dcs_get dec_law_15 29 rfl) (by decide) (fun hc => ?_) (fun hc => ?_)
      · rw [if_pos hc] at hf
        obtain ⟨v618, e_v618, hf⟩ := cL_some hf
        refine lv_iinc (v := v618) (lv' := [(3, .int v618), (0, .ref b), (1, .ref (ad1 0)), (2, .ref (ad2 0))]) X.1.hx X.1.hb (dcs_get dec_law_20 18 rfl) hl (k := 3) rfl (by rw [e_v618]; rfl) (by decide) rfl (fun ls hl => ?_)
        refine lv_goto (tgt := 18) X.1.hx X.1.hb (dcs_get dec_law_20 19 rfl) (by decide) ?_
        exact hb (v618, σ610, τ617) (Option.some.inj hf).symm _ _ _ w (lv_sub hl [1, 2, 3, 0] rfl)
      · rw [if_neg hc] at hf
        refine lv_iconst (v := (0 : Int32)) X.1.hx X.1.hb (dcs_get dec_law_15 30 rfl) (by decide) ?_
        exact absurd (hr _ (Option.some.inj hf).symm) (by decide)
    rw [if_neg hc21] at hf
    by_cases hc22 : v348 = (22 : Int32)
    · rw [if_pos hc22] at hf
      refine r_tIn (k := (22 : Int32)) (tgt := 926) X.1.hx X.1.hb (dcs_get dec_law_0 21 rfl) hc22 (by decide) rfl (by decide) ?_
      refine lv_aload_n X.1.hx X.1.hb (dcs_get dec_law_15 32 rfl) rfl (lv_at hl 1 rfl) ?_
      refine lv_aload_n X.1.hx X.1.hb (dcs_get dec_law_15 33 rfl) rfl (lv_at hl 0 rfl) ?_
      refine lv_iload_n X.1.hx X.1.hb (dcs_get dec_law_15 34 rfl) rfl (lv_at hl 3 rfl) ?_
      refine lv_iconst (v := (1 : Int32)) X.1.hx X.1.hb (dcs_get dec_law_15 35 rfl) (by decide) ?_
      refine lv_iadd X.1.hx X.1.hb (dcs_get dec_law_15 36 rfl) ?_
      obtain ⟨h619, hf⟩ := cG_some hf
      refine va_sld X.1.hx X.1.hb X.2.2.2.1 X.2.2.2.2.1 (Nat.not_le.mpr X.2.2.2.2.1) w.2.2 (inb_in h619) (dcs_get dec_law_15 37 rfl) ?_
      obtain ⟨v621, h620, hf⟩ := cB_some hf
      refine a_i1 (k_V (K := kC) (c0 := 0) (As := [.int (xs (i + (1 : Int32)).toNatClampNeg)]) (rest := []) cls11 lb_X11_clashes lv_X11_clashes q_824 (C_X11_clashes X.1.2.2.1 0 (xs (i + (1 : Int32)).toNatClampNeg) σ h620 ok11) ⟨Nat.le_of_ble_eq_true rfl, Nat.le_of_ble_eq_true rfl⟩ X.1 ⟨w.1, w.2.2⟩ (okr_in ok11).1 (okr_in ok11).2 rfl rfl hl.1 (Nat.le_of_ble_eq_true rfl) (dcs_get dec_law_15 38 rfl) ⟨Nat.le_of_ble_eq_true rfl, Nat.le_of_ble_eq_true rfl⟩) X w (fun H locs w => ?_)
      refine lv_aload_n X.1.hx X.1.hb (dcs_get dec_law_15 39 rfl) rfl (lv_at hl 2 rfl) ?_
      refine lv_aload_n X.1.hx X.1.hb (dcs_get dec_law_16 0 rfl) rfl (lv_at hl 0 rfl) ?_
      refine lv_iload_n X.1.hx X.1.hb (dcs_get dec_law_16 1 rfl) rfl (lv_at hl 3 rfl) ?_
      refine lv_iconst (v := (1 : Int32)) X.1.hx X.1.hb (dcs_get dec_law_16 2 rfl) (by decide) ?_
      refine lv_iadd X.1.hx X.1.hb (dcs_get dec_law_16 3 rfl) ?_
      obtain ⟨h622, hf⟩ := cG_some hf
      refine va_sld X.1.hx X.1.hb X.2.2.2.1 X.2.2.2.2.1 (Nat.not_le.mpr X.2.2.2.2.1) w.2.2 (inb_in h622) (dcs_get dec_law_16 4 rfl) ?_
      obtain ⟨v624, h623, hf⟩ := cB_some hf
      refine a_i2 (k_V (K := kM) (c0 := 0) (As := [.int (xs (i + (1 : Int32)).toNatClampNeg)]) (rest := [.int v621]) cls12 lb_X12_clashes lv_X12_clashes q_1539 (C_X12_clashes X.2.1.2.2.1 0 (xs (i + (1 : Int32)).toNatClampNeg) τ h623 ok12) ⟨Nat.le_of_ble_eq_true rfl, Nat.le_of_ble_eq_true rfl⟩ X.2.1 ⟨w.2.1, w.2.2⟩ (okr_in ok12).1 (okr_in ok12).2 rfl rfl hl.1 (Nat.le_of_ble_eq_true rfl) (dcs_get dec_law_16 5 rfl) ⟨Nat.le_of_ble_eq_true rfl, Nat.le_of_ble_eq_true rfl⟩) X w (fun H locs w => ?_)
      refine lv_icmp_eq (tgt := 1160) X.1.hx X.1.hb (dcs_get dec_law_16 6 rfl) (by decide) (fun hc => ?_) (fun hc => ?_)
      · rw [if_pos hc] at hf
        obtain ⟨v625, e_v625, hf⟩ := cL_some hf
        refine lv_iinc (v := v625) (lv' := [(3, .int v625), (0, .ref b), (1, .ref (ad1 0)), (2, .ref (ad2 0))]) X.1.hx X.1.hb (dcs_get dec_law_20 18 rfl) hl (k := 3) rfl (by rw [e_v625]; rfl) (by decide) rfl (fun ls hl => ?_)
        refine lv_goto (tgt := 18) X.1.hx X.1.hb (dcs_get dec_law_20 19 rfl) (by decide) ?_
        exact hb (v625, σ, τ) (Option.some.inj hf).symm _ _ _ w (lv_sub hl [1, 2, 3, 0] rfl)
      · rw [if_neg hc] at hf
        refine lv_iconst (v := (0 : Int32)) X.1.hx X.1.hb (dcs_get dec_law_16 7 rfl) (by decide) ?_
        exact absurd (hr _ (Option.some.inj hf).symm) (by decide)
    rw [if_neg hc22] at hf
    by_cases hc23 : v348 = (23 : Int32)
    · rw [if_pos hc23] at hf
      refine r_tIn (k := (23 : Int32)) (tgt := 949) X.1.hx X.1.hb (dcs_get dec_law_0 21 rfl) hc23 (by decide) rfl (by decide) ?_
      refine lv_aload_n X.1.hx X.1.hb (dcs_get dec_law_16 9 rfl) rfl (lv_at hl 1 rfl) ?_
      refine lv_aload_n X.1.hx X.1.hb (dcs_get dec_law_16 10 rfl) rfl (lv_at hl 0 rfl) ?_
      refine lv_iload_n X.1.hx X.1.hb (dcs_get dec_law_16 11 rfl) rfl (lv_at hl 3 rfl) ?_
      refine lv_iconst (v := (1 : Int32)) X.1.hx X.1.hb (dcs_get dec_law_16 12 rfl) (by decide) ?_
      refine lv_iadd X.1.hx X.1.hb (dcs_get dec_law_16 13 rfl) ?_
      obtain ⟨h626, hf⟩ := cG_some hf
      refine va_sld X.1.hx X.1.hb X.2.2.2.1 X.2.2.2.2.1 (Nat.not_le.mpr X.2.2.2.2.1) w.2.2 (inb_in h626) (dcs_get dec_law_16 14 rfl) ?_
      refine lv_aload_n X.1.hx X.1.hb (dcs_get dec_law_16 15 rfl) rfl (lv_at hl 0 rfl) ?_
      refine lv_iload_n X.1.hx X.1.hb (dcs_get dec_law_16 16 rfl) rfl (lv_at hl 3 rfl) ?_
      refine lv_iconst (v := (2 : Int32)) X.1.hx X.1.hb (dcs_get dec_law_16 17 rfl) (by decide) ?_
      refine lv_iadd X.1.hx X.1.hb (dcs_get dec_law_16 18 rfl) ?_
      obtain ⟨h627, hf⟩ := cG_some hf
      refine va_sld X.1.hx X.1.hb X.2.2.2.1 X.2.2.2.2.1 (Nat.not_le.mpr X.2.2.2.2.1) w.2.2 (inb_in h627) (dcs_get dec_law_16 19 rfl) ?_
      refine lv_aload_n X.1.hx X.1.hb (dcs_get dec_law_16 20 rfl) rfl (lv_at hl 0 rfl) ?_
      refine lv_iload_n X.1.hx X.1.hb (dcs_get dec_law_16 21 rfl) rfl (lv_at hl 3 rfl) ?_
      refine lv_iconst (v := (3 : Int32)) X.1.hx X.1.hb (dcs_get dec_law_16 22 rfl) (by decide) ?_
      refine lv_iadd X.1.hx X.1.hb (dcs_get dec_law_16 23 rfl) ?_
      obtain ⟨h628, hf⟩ := cG_some hf
      refine va_sld X.1.hx X.1.hb X.2.2.2.1 X.2.2.2.2.1 (Nat.not_le.mpr X.2.2.2.2.1) w.2.2 (inb_in h628) (dcs_get dec_law_16 24 rfl) ?_
      refine lv_aload_n X.1.hx X.1.hb (dcs_get dec_law_16 25 rfl) rfl (lv_at hl 0 rfl) ?_
      refine lv_iload_n X.1.hx X.1.hb (dcs_get dec_law_16 26 rfl) rfl (lv_at hl 3 rfl) ?_
      refine lv_iconst (v := (4 : Int32)) X.1.hx X.1.hb (dcs_get dec_law_16 27 rfl) (by decide) ?_
      refine lv_iadd X.1.hx X.1.hb (dcs_get dec_law_16 28 rfl) ?_
      obtain ⟨h629, hf⟩ := cG_some hf
      refine va_sld X.1.hx X.1.hb X.2.2.2.1 X.2.2.2.2.1 (Nat.not_le.mpr X.2.2.2.2.1) w.2.2 (inb_in h629) (dcs_get dec_law_16 29 rfl) ?_
      obtain ⟨v631, h630, hf⟩ := cB_some hf
      refine a_i1 (k_V (K := kC) (c0 := 0) (As := [.int (xs (i + (1 : Int32)).toNatClampNeg), .int (xs (i + (2 : Int32)).toNatClampNeg), .int (xs (i + (3 : Int32)).toNatClampNeg), .int (xs (i + (4 : Int32)).toNatClampNeg)]) (rest := []) cls11 lb_X11_sure lv_X11_sure q_940 (C_X11_sure X.1.2.2.1 0 (xs (i + (1 : Int32)).toNatClampNeg) (xs (i + (2 : Int32)).toNatClampNeg) (xs (i + (3 : Int32)).toNatClampNeg) (xs (i + (4 : Int32)).toNatClampNeg) σ h630 ok11) ⟨Nat.le_of_ble_eq_true rfl, Nat.le_of_ble_eq_true rfl⟩ X.1 ⟨w.1, w.2.2⟩ (okr_in ok11).1 (okr_in ok11).2 rfl rfl hl.1 (Nat.le_of_ble_eq_true rfl) (dcs_get dec_law_16 30 rfl) ⟨Nat.le_of_ble_eq_true rfl, Nat.le_of_ble_eq_true rfl⟩) X w (fun H locs w => ?_)
      refine lv_aload_n X.1.hx X.1.hb (dcs_get dec_law_16 31 rfl) rfl (lv_at hl 2 rfl) ?_
      refine lv_aload_n X.1.hx X.1.hb (dcs_get dec_law_16 32 rfl) rfl (lv_at hl 0 rfl) ?_
      refine lv_iload_n X.1.hx X.1.hb (dcs_get dec_law_16 33 rfl) rfl (lv_at hl 3 rfl) ?_
      refine lv_iconst (v := (1 : Int32)) X.1.hx X.1.hb (dcs_get dec_law_16 34 rfl) (by decide) ?_
      refine lv_iadd X.1.hx X.1.hb (dcs_get dec_law_16 35 rfl) ?_
      obtain ⟨h632, hf⟩ := cG_some hf
      refine va_sld X.1.hx X.1.hb X.2.2.2.1 X.2.2.2.2.1 (Nat.not_le.mpr X.2.2.2.2.1) w.2.2 (inb_in h632) (dcs_get dec_law_16 36 rfl) ?_
      refine lv_aload_n X.1.hx X.1.hb (dcs_get dec_law_16 37 rfl) rfl (lv_at hl 0 rfl) ?_
      refine lv_iload_n X.1.hx X.1.hb (dcs_get dec_law_16 38 rfl) rfl (lv_at hl 3 rfl) ?_
      refine lv_iconst (v := (2 : Int32)) X.1.hx X.1.hb (dcs_get dec_law_16 39 rfl) (by decide) ?_
      refine lv_iadd X.1.hx X.1.hb (dcs_get dec_law_17 0 rfl) ?_
      obtain ⟨h633, hf⟩ := cG_some hf
      refine va_sld X.1.hx X.1.hb X.2.2.2.1 X.2.2.2.2.1 (Nat.not_le.mpr X.2.2.2.2.1) w.2.2 (inb_in h633) (dcs_get dec_law_17 1 rfl) ?_
      refine lv_aload_n X.1.hx X.1.hb (dcs_get dec_law_17 2 rfl) rfl (lv_at hl 0 rfl) ?_
      refine lv_iload_n X.1.hx X.1.hb (dcs_get dec_law_17 3 rfl) rfl (lv_at hl 3 rfl) ?_
      refine lv_iconst (v := (3 : Int32)) X.1.hx X.1.hb (dcs_get dec_law_17 4 rfl) (by decide) ?_
      refine lv_iadd X.1.hx X.1.hb (dcs_get dec_law_17 5 rfl) ?_
      obtain ⟨h634, hf⟩ := cG_some hf
      refine va_sld X.1.hx X.1.hb X.2.2.2.1 X.2.2.2.2.1 (Nat.not_le.mpr X.2.2.2.2.1) w.2.2 (inb_in h634) (dcs_get dec_law_17 6 rfl) ?_
      refine lv_aload_n X.1.hx X.1.hb (dcs_get dec_law_17 7 rfl) rfl (lv_at hl 0 rfl) ?_
      refine lv_iload_n X.1.hx X.1.hb (dcs_get dec_law_17 8 rfl) rfl (lv_at hl 3 rfl) ?_
      refine lv_iconst (v := (4 : Int32)) X.1.hx X.1.hb (dcs_get dec_law_17 9 rfl) (by decide) ?_
      refine lv_iadd X.1.hx X.1.hb (dcs_get dec_law_17 10 rfl) ?_
      obtain ⟨h635, hf⟩ := cG_some hf
      refine va_sld X.1.hx X.1.hb X.2.2.2.1 X.2.2.2.2.1 (Nat.not_le.mpr X.2.2.2.2.1) w.2.2 (inb_in h635) (dcs_get dec_law_17 11 rfl) ?_
      obtain ⟨v637, h636, hf⟩ := cB_some hf
      refine a_i2 (k_V (K := kM) (c0 := 0) (As := [.int (xs (i + (1 : Int32)).toNatClampNeg), .int (xs (i + (2 : Int32)).toNatClampNeg), .int (xs (i + (3 : Int32)).toNatClampNeg), .int (xs (i + (4 : Int32)).toNatClampNeg)]) (rest := [.int v631]) cls12 lb_X12_sure lv_X12_sure q_1543 (C_X12_sure X.2.1.2.2.1 0 (xs (i + (1 : Int32)).toNatClampNeg) (xs (i + (2 : Int32)).toNatClampNeg) (xs (i + (3 : Int32)).toNatClampNeg) (xs (i + (4 : Int32)).toNatClampNeg) τ h636 ok12) ⟨Nat.le_of_ble_eq_true rfl, Nat.le_of_ble_eq_true rfl⟩ X.2.1 ⟨w.2.1, w.2.2⟩ (okr_in ok12).1 (okr_in ok12).2 rfl rfl hl.1 (Nat.le_of_ble_eq_true rfl) (dcs_get dec_law_17 12 rfl) ⟨Nat.le_of_ble_eq_true rfl, Nat.le_of_ble_eq_true rfl⟩) X w (fun H locs w => ?_)
      refine lv_icmp_eq (tgt := 1160) X.1.hx X.1.hb (dcs_get dec_law_17 13 rfl) (by decide) (fun hc => ?_) (fun hc => ?_)
      · rw [if_pos hc] at hf
        obtain ⟨v638, e_v638, hf⟩ := cL_some hf
        refine lv_iinc (v := v638) (lv' := [(3, .int v638), (0, .ref b), (1, .ref (ad1 0)), (2, .ref (ad2 0))]) X.1.hx X.1.hb (dcs_get dec_law_20 18 rfl) hl (k := 3) rfl (by rw [e_v638]; rfl) (by decide) rfl (fun ls hl => ?_)
        refine lv_goto (tgt := 18) X.1.hx X.1.hb (dcs_get dec_law_20 19 rfl) (by decide) ?_
        exact hb (v638, σ, τ) (Option.some.inj hf).symm _ _ _ w (lv_sub hl [1, 2, 3, 0] rfl)
      · rw [if_neg hc] at hf
        refine lv_iconst (v := (0 : Int32)) X.1.hx X.1.hb (dcs_get dec_law_17 14 rfl) (by decide) ?_
        exact absurd (hr _ (Option.some.inj hf).symm) (by decide)
    rw [if_neg hc23] at hf
    by_cases hc24 : v348 = (24 : Int32)
    · rw [if_pos hc24] at hf
      refine r_tIn (k := (24 : Int32)) (tgt := 1002) X.1.hx X.1.hb (dcs_get dec_law_0 21 rfl) hc24 (by decide) rfl (by decide) ?_
      refine lv_aload_n X.1.hx X.1.hb (dcs_get dec_law_17 16 rfl) rfl (lv_at hl 1 rfl) ?_
      refine lv_aload_n X.1.hx X.1.hb (dcs_get dec_law_17 17 rfl) rfl (lv_at hl 0 rfl) ?_
      refine lv_iload_n X.1.hx X.1.hb (dcs_get dec_law_17 18 rfl) rfl (lv_at hl 3 rfl) ?_
      refine lv_iconst (v := (1 : Int32)) X.1.hx X.1.hb (dcs_get dec_law_17 19 rfl) (by decide) ?_
      refine lv_iadd X.1.hx X.1.hb (dcs_get dec_law_17 20 rfl) ?_
      obtain ⟨h639, hf⟩ := cG_some hf
      refine va_sld X.1.hx X.1.hb X.2.2.2.1 X.2.2.2.2.1 (Nat.not_le.mpr X.2.2.2.2.1) w.2.2 (inb_in h639) (dcs_get dec_law_17 21 rfl) ?_
      refine lv_aload_n X.1.hx X.1.hb (dcs_get dec_law_17 22 rfl) rfl (lv_at hl 0 rfl) ?_
      refine lv_iload_n X.1.hx X.1.hb (dcs_get dec_law_17 23 rfl) rfl (lv_at hl 3 rfl) ?_
      refine lv_iconst (v := (2 : Int32)) X.1.hx X.1.hb (dcs_get dec_law_17 24 rfl) (by decide) ?_
      refine lv_iadd X.1.hx X.1.hb (dcs_get dec_law_17 25 rfl) ?_
      obtain ⟨h640, hf⟩ := cG_some hf
      refine va_sld X.1.hx X.1.hb X.2.2.2.1 X.2.2.2.2.1 (Nat.not_le.mpr X.2.2.2.2.1) w.2.2 (inb_in h640) (dcs_get dec_law_17 26 rfl) ?_
      refine lv_aload_n X.1.hx X.1.hb (dcs_get dec_law_17 27 rfl) rfl (lv_at hl 0 rfl) ?_
      refine lv_iload_n X.1.hx X.1.hb (dcs_get dec_law_17 28 rfl) rfl (lv_at hl 3 rfl) ?_
      refine lv_iconst (v := (3 : Int32)) X.1.hx X.1.hb (dcs_get dec_law_17 29 rfl) (by decide) ?_
      refine lv_iadd X.1.hx X.1.hb (dcs_get dec_law_17 30 rfl) ?_
      obtain ⟨h641, hf⟩ := cG_some hf
      refine va_sld X.1.hx X.1.hb X.2.2.2.1 X.2.2.2.2.1 (Nat.not_le.mpr X.2.2.2.2.1) w.2.2 (inb_in h641) (dcs_get dec_law_17 31 rfl) ?_
      obtain ⟨v643, σ644, h642, hf⟩ := cC_some hf
      refine a_i1 (k_V (K := kC) (c0 := 0) (As := [.int (xs (i + (1 : Int32)).toNatClampNeg), .int (xs (i + (2 : Int32)).toNatClampNeg), .int (xs (i + (3 : Int32)).toNatClampNeg)]) (rest := []) cls11 lb_X11_tell lv_X11_tell q_944 (C_X11_tell X.1.2.2.1 0 (xs (i + (1 : Int32)).toNatClampNeg) (xs (i + (2 : Int32)).toNatClampNeg) (xs (i + (3 : Int32)).toNatClampNeg) σ h642 ok11) ⟨Nat.le_of_ble_eq_true rfl, Nat.le_of_ble_eq_true rfl⟩ X.1 ⟨w.1, w.2.2⟩ (okr_in ok11).1 (okr_in ok11).2 rfl rfl hl.1 (Nat.le_of_ble_eq_true rfl) (dcs_get dec_law_17 32 rfl) ⟨Nat.le_of_ble_eq_true rfl, Nat.le_of_ble_eq_true rfl⟩) X w (fun H locs w => ?_)
      refine lv_aload_n X.1.hx X.1.hb (dcs_get dec_law_17 33 rfl) rfl (lv_at hl 2 rfl) ?_
      refine lv_aload_n X.1.hx X.1.hb (dcs_get dec_law_17 34 rfl) rfl (lv_at hl 0 rfl) ?_
      refine lv_iload_n X.1.hx X.1.hb (dcs_get dec_law_17 35 rfl) rfl (lv_at hl 3 rfl) ?_
      refine lv_iconst (v := (1 : Int32)) X.1.hx X.1.hb (dcs_get dec_law_17 36 rfl) (by decide) ?_
      refine lv_iadd X.1.hx X.1.hb (dcs_get dec_law_17 37 rfl) ?_
      obtain ⟨h645, hf⟩ := cG_some hf
      refine va_sld X.1.hx X.1.hb X.2.2.2.1 X.2.2.2.2.1 (Nat.not_le.mpr X.2.2.2.2.1) w.2.2 (inb_in h645) (dcs_get dec_law_17 38 rfl) ?_
      refine lv_aload_n X.1.hx X.1.hb (dcs_get dec_law_17 39 rfl) rfl (lv_at hl 0 rfl) ?_
      refine lv_iload_n X.1.hx X.1.hb (dcs_get dec_law_18 0 rfl) rfl (lv_at hl 3 rfl) ?_
      refine lv_iconst (v := (2 : Int32)) X.1.hx X.1.hb (dcs_get dec_law_18 1 rfl) (by decide) ?_
      refine lv_iadd X.1.hx X.1.hb (dcs_get dec_law_18 2 rfl) ?_
      obtain ⟨h646, hf⟩ := cG_some hf
      refine va_sld X.1.hx X.1.hb X.2.2.2.1 X.2.2.2.2.1 (Nat.not_le.mpr X.2.2.2.2.1) w.2.2 (inb_in h646) (dcs_get dec_law_18 3 rfl) ?_
      refine lv_aload_n X.1.hx X.1.hb (dcs_get dec_law_18 4 rfl) rfl (lv_at hl 0 rfl) ?_
      refine lv_iload_n X.1.hx X.1.hb (dcs_get dec_law_18 5 rfl) rfl (lv_at hl 3 rfl) ?_
      refine lv_iconst (v := (3 : Int32)) X.1.hx X.1.hb (dcs_get dec_law_18 6 rfl) (by decide) ?_
      refine lv_iadd X.1.hx X.1.hb (dcs_get dec_law_18 7 rfl) ?_
      obtain ⟨h647, hf⟩ := cG_some hf
      refine va_sld X.1.hx X.1.hb X.2.2.2.1 X.2.2.2.2.1 (Nat.not_le.mpr X.2.2.2.2.1) w.2.2 (inb_in h647) (dcs_get dec_law_18 8 rfl) ?_
      obtain ⟨v649, τ650, h648, hf⟩ := cC_some hf
      refine a_i2 (k_V (K := kM) (c0 := 0) (As := [.int (xs (i + (1 : Int32)).toNatClampNeg), .int (xs (i + (2 : Int32)).toNatClampNeg), .int (xs (i + (3 : Int32)).toNatClampNeg)]) (rest := [.int v643]) cls12 lb_X12_tell_ lv_X12_tell_ q_1547 (C_X12_tell_ X.2.1.2.2.1 0 (xs (i + (1 : Int32)).toNatClampNeg) (xs (i + (2 : Int32)).toNatClampNeg) (xs (i + (3 : Int32)).toNatClampNeg) τ h648 ok12) ⟨Nat.le_of_ble_eq_true rfl, Nat.le_of_ble_eq_true rfl⟩ X.2.1 ⟨w.2.1, w.2.2⟩ (okr_in ok12).1 (okr_in ok12).2 rfl rfl hl.1 (Nat.le_of_ble_eq_true rfl) (dcs_get dec_law_18 9 rfl) ⟨Nat.le_of_ble_eq_true rfl, Nat.le_of_ble_eq_true rfl⟩) X w (fun H locs w => ?_)
      refine lv_icmp_eq (tgt := 1160) X.1.hx X.1.hb (dcs_get dec_law_18 10 rfl) (by decide) (fun hc => ?_) (fun hc => ?_)
      · rw [if_pos hc] at hf
        obtain ⟨v651, e_v651, hf⟩ := cL_some hf
        refine lv_iinc (v := v651) (lv' := [(3, .int v651), (0, .ref b), (1, .ref (ad1 0)), (2, .ref (ad2 0))]) X.1.hx X.1.hb (dcs_get dec_law_20 18 rfl) hl (k := 3) rfl (by rw [e_v651]; rfl) (by decide) rfl (fun ls hl => ?_)
        refine lv_goto (tgt := 18) X.1.hx X.1.hb (dcs_get dec_law_20 19 rfl) (by decide) ?_
        exact hb (v651, σ644, τ650) (Option.some.inj hf).symm _ _ _ w (lv_sub hl [1, 2, 3, 0] rfl)
      · rw [if_neg hc] at hf
        refine lv_iconst (v := (0 : Int32)) X.1.hx X.1.hb (dcs_get dec_law_18 11 rfl) (by decide) ?_
        exact absurd (hr _ (Option.some.inj hf).symm) (by decide)
    rw [if_neg hc24] at hf
    by_cases hc25 : v348 = (25 : Int32)
    · rw [if_pos hc25] at hf
      refine r_tIn (k := (25 : Int32)) (tgt := 1045) X.1.hx X.1.hb (dcs_get dec_law_0 21 rfl) hc25 (by decide) rfl (by decide) ?_
      refine lv_aload_n X.1.hx X.1.hb (dcs_get dec_law_18 13 rfl) rfl (lv_at hl 1 rfl) ?_
      obtain ⟨v653, σ654, h652, hf⟩ := cC_some hf
      refine a_i1 (k_V (K := kC) (c0 := 0) (As := []) (rest := []) cls11 lb_X11_forget lv_X11_forget q_952 (C_X11_forget X.1.2.2.1 0  σ h652 ok11) ⟨Nat.le_of_ble_eq_true rfl, Nat.le_of_ble_eq_true rfl⟩ X.1 ⟨w.1, w.2.2⟩ (okr_in ok11).1 (okr_in ok11).2 rfl rfl hl.1 (Nat.le_of_ble_eq_true rfl) (dcs_get dec_law_18 14 rfl) ⟨Nat.le_of_ble_eq_true rfl, Nat.le_of_ble_eq_true rfl⟩) X w (fun H locs w => ?_)
      refine lv_aload_n X.1.hx X.1.hb (dcs_get dec_law_18 15 rfl) rfl (lv_at hl 2 rfl) ?_
      obtain ⟨v656, τ657, h655, hf⟩ := cC_some hf
      refine a_i2 (k_V (K := kM) (c0 := 0) (As := []) (rest := [.int v653]) cls12 lb_X12_forget lv_X12_forget q_1551 (C_X12_forget X.2.1.2.2.1 0  τ h655 ok12) ⟨Nat.le_of_ble_eq_true rfl, Nat.le_of_ble_eq_true rfl⟩ X.2.1 ⟨w.2.1, w.2.2⟩ (okr_in ok12).1 (okr_in ok12).2 rfl rfl hl.1 (Nat.le_of_ble_eq_true rfl) (dcs_get dec_law_18 16 rfl) ⟨Nat.le_of_ble_eq_true rfl, Nat.le_of_ble_eq_true rfl⟩) X w (fun H locs w => ?_)
      refine lv_icmp_eq (tgt := 1160) X.1.hx X.1.hb (dcs_get dec_law_18 17 rfl) (by decide) (fun hc => ?_) (fun hc => ?_)
      · rw [if_pos hc] at hf
        obtain ⟨v658, e_v658, hf⟩ := cL_some hf
        refine lv_iinc (v := v658) (lv' := [(3, .int v658), (0, .ref b), (1, .ref (ad1 0)), (2, .ref (ad2 0))]) X.1.hx X.1.hb (dcs_get dec_law_20 18 rfl) hl (k := 3) rfl (by rw [e_v658]; rfl) (by decide) rfl (fun ls hl => ?_)
        refine lv_goto (tgt := 18) X.1.hx X.1.hb (dcs_get dec_law_20 19 rfl) (by decide) ?_
        exact hb (v658, σ654, τ657) (Option.some.inj hf).symm _ _ _ w (lv_sub hl [1, 2, 3, 0] rfl)
      · rw [if_neg hc] at hf
        refine lv_iconst (v := (0 : Int32)) X.1.hx X.1.hb (dcs_get dec_law_18 18 rfl) (by decide) ?_
        exact absurd (hr _ (Option.some.inj hf).symm) (by decide)
    rw [if_neg hc25] at hf
    by_cases hc26 : v348 = (26 : Int32)
    · rw [if_pos hc26] at hf
      refine r_tIn (k := (26 : Int32)) (tgt := 1058) X.1.hx X.1.hb (dcs_get dec_law_0 21 rfl) hc26 (by decide) rfl (by decide) ?_
      refine lv_aload_n X.1.hx X.1.hb (dcs_get dec_law_18 20 rfl) rfl (lv_at hl 1 rfl) ?_
      refine lv_aload_n X.1.hx X.1.hb (dcs_get dec_law_18 21 rfl) rfl (lv_at hl 0 rfl) ?_
      refine lv_iload_n X.1.hx X.1.hb (dcs_get dec_law_18 22 rfl) rfl (lv_at hl 3 rfl) ?_
      refine lv_iconst (v := (1 : Int32)) X.1.hx X.1.hb (dcs_get dec_law_18 23 rfl) (by decide) ?_
      refine lv_iadd X.1.hx X.1.hb (dcs_get dec_law_18 24 rfl) ?_
      obtain ⟨h659, hf⟩ := cG_some hf
      refine va_sld X.1.hx X.1.hb X.2.2.2.1 X.2.2.2.2.1 (Nat.not_le.mpr X.2.2.2.2.1) w.2.2 (inb_in h659) (dcs_get dec_law_18 25 rfl) ?_
      refine lv_aload_n X.1.hx X.1.hb (dcs_get dec_law_18 26 rfl) rfl (lv_at hl 0 rfl) ?_
      refine lv_iload_n X.1.hx X.1.hb (dcs_get dec_law_18 27 rfl) rfl (lv_at hl 3 rfl) ?_
      refine lv_iconst (v := (2 : Int32)) X.1.hx X.1.hb (dcs_get dec_law_18 28 rfl) (by decide) ?_
      refine lv_iadd X.1.hx X.1.hb (dcs_get dec_law_18 29 rfl) ?_
      obtain ⟨h660, hf⟩ := cG_some hf
      refine va_sld X.1.hx X.1.hb X.2.2.2.1 X.2.2.2.2.1 (Nat.not_le.mpr X.2.2.2.2.1) w.2.2 (inb_in h660) (dcs_get dec_law_18 30 rfl) ?_
      obtain ⟨v662, σ663, h661, hf⟩ := cC_some hf
      refine a_i1 (k_V (K := kC) (c0 := 0) (As := [.int (xs (i + (1 : Int32)).toNatClampNeg), .int (xs (i + (2 : Int32)).toNatClampNeg)]) (rest := []) cls11 lb_X11_beginners lv_X11_beginners q_956 (C_X11_beginners X.1.2.2.1 0 (xs (i + (1 : Int32)).toNatClampNeg) (xs (i + (2 : Int32)).toNatClampNeg) σ h661 ok11) ⟨Nat.le_of_ble_eq_true rfl, Nat.le_of_ble_eq_true rfl⟩ X.1 ⟨w.1, w.2.2⟩ (okr_in ok11).1 (okr_in ok11).2 rfl rfl hl.1 (Nat.le_of_ble_eq_true rfl) (dcs_get dec_law_18 31 rfl) ⟨Nat.le_of_ble_eq_true rfl, Nat.le_of_ble_eq_true rfl⟩) X w (fun H locs w => ?_)
      refine lv_aload_n X.1.hx X.1.hb (dcs_get dec_law_18 32 rfl) rfl (lv_at hl 2 rfl) ?_
      refine lv_aload_n X.1.hx X.1.hb (dcs_get dec_law_18 33 rfl) rfl (lv_at hl 0 rfl) ?_
      refine lv_iload_n X.1.hx X.1.hb (dcs_get dec_law_18 34 rfl) rfl (lv_at hl 3 rfl) ?_
      refine lv_iconst (v := (1 : Int32)) X.1.hx X.1.hb (dcs_get dec_law_18 35 rfl) (by decide) ?_
      refine lv_iadd X.1.hx X.1.hb (dcs_get dec_law_18 36 rfl) ?_
      obtain ⟨h664, hf⟩ := cG_some hf
      refine va_sld X.1.hx X.1.hb X.2.2.2.1 X.2.2.2.2.1 (Nat.not_le.mpr X.2.2.2.2.1) w.2.2 (inb_in h664) (dcs_get dec_law_18 37 rfl) ?_
      refine lv_aload_n X.1.hx X.1.hb (dcs_get dec_law_18 38 rfl) rfl (lv_at hl 0 rfl) ?_
      refine lv_iload_n X.1.hx X.1.hb (dcs_get dec_law_18 39 rfl) rfl (lv_at hl 3 rfl) ?_
      refine lv_iconst (v := (2 : Int32)) X.1.hx X.1.hb (dcs_get dec_law_19 0 rfl) (by decide) ?_
      refine lv_iadd X.1.hx X.1.hb (dcs_get dec_law_19 1 rfl) ?_
      obtain ⟨h665, hf⟩ := cG_some hf
      refine va_sld X.1.hx X.1.hb X.2.2.2.1 X.2.2.2.2.1 (Nat.not_le.mpr X.2.2.2.2.1) w.2.2 (inb_in h665) (dcs_get dec_law_19 2 rfl) ?_
      obtain ⟨v667, τ668, h666, hf⟩ := cC_some hf
      refine a_i2 (k_V (K := kM) (c0 := 0) (As := [.int (xs (i + (1 : Int32)).toNatClampNeg), .int (xs (i + (2 : Int32)).toNatClampNeg)]) (rest := [.int v662]) cls12 lb_X12_beginners lv_X12_beginners q_1555 (C_X12_beginners X.2.1.2.2.1 0 (xs (i + (1 : Int32)).toNatClampNeg) (xs (i + (2 : Int32)).toNatClampNeg) τ h666 ok12) ⟨Nat.le_of_ble_eq_true rfl, Nat.le_of_ble_eq_true rfl⟩ X.2.1 ⟨w.2.1, w.2.2⟩ (okr_in ok12).1 (okr_in ok12).2 rfl rfl hl.1 (Nat.le_of_ble_eq_true rfl) (dcs_get dec_law_19 3 rfl) ⟨Nat.le_of_ble_eq_true rfl, Nat.le_of_ble_eq_true rfl⟩) X w (fun H locs w => ?_)
      refine lv_icmp_eq (tgt := 1160) X.1.hx X.1.hb (dcs_get dec_law_19 4 rfl) (by decide) (fun hc => ?_) (fun hc => ?_)
      · rw [if_pos hc] at hf
        obtain ⟨v669, e_v669, hf⟩ := cL_some hf
        refine lv_iinc (v := v669) (lv' := [(3, .int v669), (0, .ref b), (1, .ref (ad1 0)), (2, .ref (ad2 0))]) X.1.hx X.1.hb (dcs_get dec_law_20 18 rfl) hl (k := 3) rfl (by rw [e_v669]; rfl) (by decide) rfl (fun ls hl => ?_)
        refine lv_goto (tgt := 18) X.1.hx X.1.hb (dcs_get dec_law_20 19 rfl) (by decide) ?_
        exact hb (v669, σ663, τ668) (Option.some.inj hf).symm _ _ _ w (lv_sub hl [1, 2, 3, 0] rfl)
      · rw [if_neg hc] at hf
        refine lv_iconst (v := (0 : Int32)) X.1.hx X.1.hb (dcs_get dec_law_19 5 rfl) (by decide) ?_
        exact absurd (hr _ (Option.some.inj hf).symm) (by decide)
    rw [if_neg hc26] at hf
    by_cases hc27 : v348 = (27 : Int32)
    · rw [if_pos hc27] at hf
      refine r_tIn (k := (27 : Int32)) (tgt := 1091) X.1.hx X.1.hb (dcs_get dec_law_0 21 rfl) hc27 (by decide) rfl (by decide) ?_
      refine lv_aload_n X.1.hx X.1.hb (dcs_get dec_law_19 7 rfl) rfl (lv_at hl 1 rfl) ?_
      refine lv_aload_n X.1.hx X.1.hb (dcs_get dec_law_19 8 rfl) rfl (lv_at hl 0 rfl) ?_
      refine lv_iload_n X.1.hx X.1.hb (dcs_get dec_law_19 9 rfl) rfl (lv_at hl 3 rfl) ?_
      refine lv_iconst (v := (1 : Int32)) X.1.hx X.1.hb (dcs_get dec_law_19 10 rfl) (by decide) ?_
      refine lv_iadd X.1.hx X.1.hb (dcs_get dec_law_19 11 rfl) ?_
      obtain ⟨h670, hf⟩ := cG_some hf
      refine va_sld X.1.hx X.1.hb X.2.2.2.1 X.2.2.2.2.1 (Nat.not_le.mpr X.2.2.2.2.1) w.2.2 (inb_in h670) (dcs_get dec_law_19 12 rfl) ?_
      obtain ⟨v672, σ673, h671, hf⟩ := cC_some hf
      refine a_i1 (k_V (K := kC) (c0 := 0) (As := [.int (xs (i + (1 : Int32)).toNatClampNeg)]) (rest := []) cls11 lb_X11_hold lv_X11_hold q_972 (C_X11_hold X.1.2.2.1 0 (xs (i + (1 : Int32)).toNatClampNeg) σ h671 ok11) ⟨Nat.le_of_ble_eq_true rfl, Nat.le_of_ble_eq_true rfl⟩ X.1 ⟨w.1, w.2.2⟩ (okr_in ok11).1 (okr_in ok11).2 rfl rfl hl.1 (Nat.le_of_ble_eq_true rfl) (dcs_get dec_law_19 13 rfl) ⟨Nat.le_of_ble_eq_true rfl, Nat.le_of_ble_eq_true rfl⟩) X w (fun H locs w => ?_)
      refine lv_aload_n X.1.hx X.1.hb (dcs_get dec_law_19 14 rfl) rfl (lv_at hl 2 rfl) ?_
      refine lv_aload_n X.1.hx X.1.hb (dcs_get dec_law_19 15 rfl) rfl (lv_at hl 0 rfl) ?_
      refine lv_iload_n X.1.hx X.1.hb (dcs_get dec_law_19 16 rfl) rfl (lv_at hl 3 rfl) ?_
      refine lv_iconst (v := (1 : Int32)) X.1.hx X.1.hb (dcs_get dec_law_19 17 rfl) (by decide) ?_
      refine lv_iadd X.1.hx X.1.hb (dcs_get dec_law_19 18 rfl) ?_
      obtain ⟨h674, hf⟩ := cG_some hf
      refine va_sld X.1.hx X.1.hb X.2.2.2.1 X.2.2.2.2.1 (Nat.not_le.mpr X.2.2.2.2.1) w.2.2 (inb_in h674) (dcs_get dec_law_19 19 rfl) ?_
      obtain ⟨v676, τ677, h675, hf⟩ := cC_some hf
      refine a_i2 (k_V (K := kM) (c0 := 0) (As := [.int (xs (i + (1 : Int32)).toNatClampNeg)]) (rest := [.int v672]) cls12 lb_X12_hold lv_X12_hold q_1563 (C_X12_hold X.2.1.2.2.1 0 (xs (i + (1 : Int32)).toNatClampNeg) τ h675 ok12) ⟨Nat.le_of_ble_eq_true rfl, Nat.le_of_ble_eq_true rfl⟩ X.2.1 ⟨w.2.1, w.2.2⟩ (okr_in ok12).1 (okr_in ok12).2 rfl rfl hl.1 (Nat.le_of_ble_eq_true rfl) (dcs_get dec_law_19 20 rfl) ⟨Nat.le_of_ble_eq_true rfl, Nat.le_of_ble_eq_true rfl⟩) X w (fun H locs w => ?_)
      refine lv_icmp_eq (tgt := 1160) X.1.hx X.1.hb (dcs_get dec_law_19 21 rfl) (by decide) (fun hc => ?_) (fun hc => ?_)
      · rw [if_pos hc] at hf
        obtain ⟨v678, e_v678, hf⟩ := cL_some hf
        refine lv_iinc (v := v678) (lv' := [(3, .int v678), (0, .ref b), (1, .ref (ad1 0)), (2, .ref (ad2 0))]) X.1.hx X.1.hb (dcs_get dec_law_20 18 rfl) hl (k := 3) rfl (by rw [e_v678]; rfl) (by decide) rfl (fun ls hl => ?_)
        refine lv_goto (tgt := 18) X.1.hx X.1.hb (dcs_get dec_law_20 19 rfl) (by decide) ?_
        exact hb (v678, σ673, τ677) (Option.some.inj hf).symm _ _ _ w (lv_sub hl [1, 2, 3, 0] rfl)
      · rw [if_neg hc] at hf
        refine lv_iconst (v := (0 : Int32)) X.1.hx X.1.hb (dcs_get dec_law_19 22 rfl) (by decide) ?_
        exact absurd (hr _ (Option.some.inj hf).symm) (by decide)
    rw [if_neg hc27] at hf
    by_cases hc28 : v348 = (28 : Int32)
    · rw [if_pos hc28] at hf
      refine r_tIn (k := (28 : Int32)) (tgt := 1114) X.1.hx X.1.hb (dcs_get dec_law_0 21 rfl) hc28 (by decide) rfl (by decide) ?_
      refine lv_aload_n X.1.hx X.1.hb (dcs_get dec_law_19 24 rfl) rfl (lv_at hl 1 rfl) ?_
      refine lv_aload_n X.1.hx X.1.hb (dcs_get dec_law_19 25 rfl) rfl (lv_at hl 0 rfl) ?_
      refine lv_iload_n X.1.hx X.1.hb (dcs_get dec_law_19 26 rfl) rfl (lv_at hl 3 rfl) ?_
      refine lv_iconst (v := (1 : Int32)) X.1.hx X.1.hb (dcs_get dec_law_19 27 rfl) (by decide) ?_
      refine lv_iadd X.1.hx X.1.hb (dcs_get dec_law_19 28 rfl) ?_
      obtain ⟨h679, hf⟩ := cG_some hf
      refine va_sld X.1.hx X.1.hb X.2.2.2.1 X.2.2.2.2.1 (Nat.not_le.mpr X.2.2.2.2.1) w.2.2 (inb_in h679) (dcs_get dec_law_19 29 rfl) ?_
      obtain ⟨v681, σ682, h680, hf⟩ := cC_some hf
      refine a_i1 (k_V (K := kC) (c0 := 0) (As := [.int (xs (i + (1 : Int32)).toNatClampNeg)]) (rest := []) cls11 lb_X11_restore lv_X11_restore q_976 (C_X11_restore X.1.2.2.1 0 (xs (i + (1 : Int32)).toNatClampNeg) σ h680 ok11) ⟨Nat.le_of_ble_eq_true rfl, Nat.le_of_ble_eq_true rfl⟩ X.1 ⟨w.1, w.2.2⟩ (okr_in ok11).1 (okr_in ok11).2 rfl rfl hl.1 (Nat.le_of_ble_eq_true rfl) (dcs_get dec_law_19 30 rfl) ⟨Nat.le_of_ble_eq_true rfl, Nat.le_of_ble_eq_true rfl⟩) X w (fun H locs w => ?_)
      refine lv_aload_n X.1.hx X.1.hb (dcs_get dec_law_19 31 rfl) rfl (lv_at hl 2 rfl) ?_
      refine lv_aload_n X.1.hx X.1.hb (dcs_get dec_law_19 32 rfl) rfl (lv_at hl 0 rfl) ?_
      refine lv_iload_n X.1.hx X.1.hb (dcs_get dec_law_19 33 rfl) rfl (lv_at hl 3 rfl) ?_
      refine lv_iconst (v := (1 : Int32)) X.1.hx X.1.hb (dcs_get dec_law_19 34 rfl) (by decide) ?_
      refine lv_iadd X.1.hx X.1.hb (dcs_get dec_law_19 35 rfl) ?_
      obtain ⟨h683, hf⟩ := cG_some hf
      refine va_sld X.1.hx X.1.hb X.2.2.2.1 X.2.2.2.2.1 (Nat.not_le.mpr X.2.2.2.2.1) w.2.2 (inb_in h683) (dcs_get dec_law_19 36 rfl) ?_
      obtain ⟨v685, τ686, h684, hf⟩ := cC_some hf
      refine a_i2 (k_V (K := kM) (c0 := 0) (As := [.int (xs (i + (1 : Int32)).toNatClampNeg)]) (rest := [.int v681]) cls12 lb_X12_restore lv_X12_restore q_1567 (C_X12_restore X.2.1.2.2.1 0 (xs (i + (1 : Int32)).toNatClampNeg) τ h684 ok12) ⟨Nat.le_of_ble_eq_true rfl, Nat.le_of_ble_eq_true rfl⟩ X.2.1 ⟨w.2.1, w.2.2⟩ (okr_in ok12).1 (okr_in ok12).2 rfl rfl hl.1 (Nat.le_of_ble_eq_true rfl) (dcs_get dec_law_19 37 rfl) ⟨Nat.le_of_ble_eq_true rfl, Nat.le_of_ble_eq_true rfl⟩) X w (fun H locs w => ?_)
      refine lv_icmp_eq (tgt := 1160) X.1.hx X.1.hb (dcs_get dec_law_19 38 rfl) (by decide) (fun hc => ?_) (fun hc => ?_)
      · rw [if_pos hc] at hf
        obtain ⟨v687, e_v687, hf⟩ := cL_some hf
        refine lv_iinc (v := v687) (lv' := [(3, .int v687), (0, .ref b), (1, .ref (ad1 0)), (2, .ref (ad2 0))]) X.1.hx X.1.hb (dcs_get dec_law_20 18 rfl) hl (k := 3) rfl (by rw [e_v687]; rfl) (by decide) rfl (fun ls hl => ?_)
        refine lv_goto (tgt := 18) X.1.hx X.1.hb (dcs_get dec_law_20 19 rfl) (by decide) ?_
        exact hb (v687, σ682, τ686) (Option.some.inj hf).symm _ _ _ w (lv_sub hl [1, 2, 3, 0] rfl)
      · rw [if_neg hc] at hf
        refine lv_iconst (v := (0 : Int32)) X.1.hx X.1.hb (dcs_get dec_law_19 39 rfl) (by decide) ?_
        exact absurd (hr _ (Option.some.inj hf).symm) (by decide)
    rw [if_neg hc28] at hf
    by_cases hc29 : v348 = (29 : Int32)
    · rw [if_pos hc29] at hf
      refine r_tIn (k := (29 : Int32)) (tgt := 1137) X.1.hx X.1.hb (dcs_get dec_law_0 21 rfl) hc29 (by decide) rfl (by decide) ?_
      refine lv_aload_n X.1.hx X.1.hb (dcs_get dec_law_20 1 rfl) rfl (lv_at hl 1 rfl) ?_
      refine lv_aload_n X.1.hx X.1.hb (dcs_get dec_law_20 2 rfl) rfl (lv_at hl 0 rfl) ?_
      refine lv_iload_n X.1.hx X.1.hb (dcs_get dec_law_20 3 rfl) rfl (lv_at hl 3 rfl) ?_
      refine lv_iconst (v := (1 : Int32)) X.1.hx X.1.hb (dcs_get dec_law_20 4 rfl) (by decide) ?_
      refine lv_iadd X.1.hx X.1.hb (dcs_get dec_law_20 5 rfl) ?_
      obtain ⟨h688, hf⟩ := cG_some hf
      refine va_sld X.1.hx X.1.hb X.2.2.2.1 X.2.2.2.2.1 (Nat.not_le.mpr X.2.2.2.2.1) w.2.2 (inb_in h688) (dcs_get dec_law_20 6 rfl) ?_
      obtain ⟨v690, h689, hf⟩ := cB_some hf
      refine a_i1 (k_V (K := kC) (c0 := 0) (As := [.int (xs (i + (1 : Int32)).toNatClampNeg)]) (rest := []) cls11 lb_X11_count lv_X11_count q_980 (C_X11_count X.1.2.2.1 0 (xs (i + (1 : Int32)).toNatClampNeg) σ h689 ok11) ⟨Nat.le_of_ble_eq_true rfl, Nat.le_of_ble_eq_true rfl⟩ X.1 ⟨w.1, w.2.2⟩ (okr_in ok11).1 (okr_in ok11).2 rfl rfl hl.1 (Nat.le_of_ble_eq_true rfl) (dcs_get dec_law_20 7 rfl) ⟨Nat.le_of_ble_eq_true rfl, Nat.le_of_ble_eq_true rfl⟩) X w (fun H locs w => ?_)
      refine lv_aload_n X.1.hx X.1.hb (dcs_get dec_law_20 8 rfl) rfl (lv_at hl 2 rfl) ?_
      refine lv_aload_n X.1.hx X.1.hb (dcs_get dec_law_20 9 rfl) rfl (lv_at hl 0 rfl) ?_
      refine lv_iload_n X.1.hx X.1.hb (dcs_get dec_law_20 10 rfl) rfl (lv_at hl 3 rfl) ?_
      refine lv_iconst (v := (1 : Int32)) X.1.hx X.1.hb (dcs_get dec_law_20 11 rfl) (by decide) ?_
      refine lv_iadd X.1.hx X.1.hb (dcs_get dec_law_20 12 rfl) ?_
      obtain ⟨h691, hf⟩ := cG_some hf
      refine va_sld X.1.hx X.1.hb X.2.2.2.1 X.2.2.2.2.1 (Nat.not_le.mpr X.2.2.2.2.1) w.2.2 (inb_in h691) (dcs_get dec_law_20 13 rfl) ?_
      obtain ⟨v693, h692, hf⟩ := cB_some hf
      refine a_i2 (k_V (K := kM) (c0 := 0) (As := [.int (xs (i + (1 : Int32)).toNatClampNeg)]) (rest := [.int v690]) cls12 lb_X12_count lv_X12_count q_1571 (C_X12_count X.2.1.2.2.1 0 (xs (i + (1 : Int32)).toNatClampNeg) τ h692 ok12) ⟨Nat.le_of_ble_eq_true rfl, Nat.le_of_ble_eq_true rfl⟩ X.2.1 ⟨w.2.1, w.2.2⟩ (okr_in ok12).1 (okr_in ok12).2 rfl rfl hl.1 (Nat.le_of_ble_eq_true rfl) (dcs_get dec_law_20 14 rfl) ⟨Nat.le_of_ble_eq_true rfl, Nat.le_of_ble_eq_true rfl⟩) X w (fun H locs w => ?_)
      refine lv_icmp_eq (tgt := 1160) X.1.hx X.1.hb (dcs_get dec_law_20 15 rfl) (by decide) (fun hc => ?_) (fun hc => ?_)
      · rw [if_pos hc] at hf
        obtain ⟨v694, e_v694, hf⟩ := cL_some hf
        refine lv_iinc (v := v694) (lv' := [(3, .int v694), (0, .ref b), (1, .ref (ad1 0)), (2, .ref (ad2 0))]) X.1.hx X.1.hb (dcs_get dec_law_20 18 rfl) hl (k := 3) rfl (by rw [e_v694]; rfl) (by decide) rfl (fun ls hl => ?_)
        refine lv_goto (tgt := 18) X.1.hx X.1.hb (dcs_get dec_law_20 19 rfl) (by decide) ?_
        exact hb (v694, σ, τ) (Option.some.inj hf).symm _ _ _ w (lv_sub hl [1, 2, 3, 0] rfl)
      · rw [if_neg hc] at hf
        refine lv_iconst (v := (0 : Int32)) X.1.hx X.1.hb (dcs_get dec_law_20 16 rfl) (by decide) ?_
        exact absurd (hr _ (Option.some.inj hf).symm) (by decide)
    rw [if_neg hc29] at hf
    refine lv_tableOut (tgt := 1160) X.1.hx X.1.hb (dcs_get dec_law_0 21 rfl) (ts_out [(0 : Int32), (1 : Int32), (2 : Int32), (3 : Int32), (4 : Int32), (5 : Int32), (6 : Int32), (7 : Int32), (8 : Int32), (9 : Int32), (10 : Int32), (11 : Int32), (12 : Int32), (13 : Int32), (14 : Int32), (15 : Int32), (16 : Int32), (17 : Int32), (18 : Int32), (19 : Int32), (20 : Int32), (21 : Int32), (22 : Int32), (23 : Int32), (24 : Int32), (25 : Int32), (26 : Int32), (27 : Int32), (28 : Int32), (29 : Int32)] (by intro z h1 h2; simp only [List.map]; rcases (show z = 0 ∨ z = 1 ∨ z = 2 ∨ z = 3 ∨ z = 4 ∨ z = 5 ∨ z = 6 ∨ z = 7 ∨ z = 8 ∨ z = 9 ∨ z = 10 ∨ z = 11 ∨ z = 12 ∨ z = 13 ∨ z = 14 ∨ z = 15 ∨ z = 16 ∨ z = 17 ∨ z = 18 ∨ z = 19 ∨ z = 20 ∨ z = 21 ∨ z = 22 ∨ z = 23 ∨ z = 24 ∨ z = 25 ∨ z = 26 ∨ z = 27 ∨ z = 28 ∨ z = 29 by omega) with h4 | h4 | h4 | h4 | h4 | h4 | h4 | h4 | h4 | h4 | h4 | h4 | h4 | h4 | h4 | h4 | h4 | h4 | h4 | h4 | h4 | h4 | h4 | h4 | h4 | h4 | h4 | h4 | h4 | h4 <;> subst h4 <;> decide) (by simp only [List.forall_mem_cons]; exact ⟨hc0, hc1, hc2, hc3, hc4, hc5, hc6, hc7, hc8, hc9, hc10, hc11, hc12, hc13, hc14, hc15, hc16, hc17, hc18, hc19, hc20, hc21, hc22, hc23, hc24, hc25, hc26, hc27, hc28, hc29, fun _ h => absurd h List.not_mem_nil⟩)) (by decide) ?_
    obtain ⟨v695, e_v695, hf⟩ := cL_some hf
    refine lv_iinc (v := v695) (lv' := [(3, .int v695), (0, .ref b), (1, .ref (ad1 0)), (2, .ref (ad2 0))]) X.1.hx X.1.hb (dcs_get dec_law_20 18 rfl) hl (k := 3) rfl (by rw [e_v695]; rfl) (by decide) rfl (fun ls hl => ?_)
    refine lv_goto (tgt := 18) X.1.hx X.1.hb (dcs_get dec_law_20 19 rfl) (by decide) ?_
    exact hb (v695, σ, τ) (Option.some.inj hf).symm _ _ _ w (lv_sub hl [1, 2, 3, 0] rfl)
theorem H_law (X : LC p s m meth c D ay ad1 ad2 b L xs) : ∀ (k : Nat) (v : Int32 × hSt × hSt), lp (S_law xs L) k v = some 1 → ∀ (H : Heap) (locs : List Loc) (ls : Array Slot), WL D ay ad1 ad2 s v.2.1 v.2.2 H locs → lv_has ls 4 [(0, .ref b), (1, .ref (ad1 0)), (2, .ref (ad2 0)), (3, .int v.1)] → W p l e room_1 s m #[Value.ref b] below meth c H locs 293 37911 (lw_Z below #[Value.ref b] s) (F0 m 18 ls []) := by
  intro k
  induction k with
  | zero => intro v hf; cases hf
  | succ k ih =>
    intro v hf H locs ls w hl
    obtain ⟨o1, h1, h2, h3⟩ := lp_some hf
    exact B_law_18 X v.1 v.2.1 v.2.2 h1 (fun v' e => ih v' (h2 v' e)) (fun x e => h3 x e) w hl
end
