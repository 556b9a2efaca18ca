/-! the law: its program on the small machine, and its walk -/
noncomputable section Bb6
abbrev iLw : zI := (R_law, code, 4, ret, false)
def tl_p : List (Nat × Instr × Nat) := [(0, .new 7, 3), (3, .dup, 1), (4, .invokespecial 9, 3), (7, .astore_n 1, 1), (8, .new 10, 3), (11, .dup, 1), (12, .invokespecial 12, 3), (15, .astore_n 2, 1), (16, .iconst 0, 1), (17, .istore_n 3, 1), (18, .iload_n 3, 1), (19, .aload_n 0, 1), (20, .arraylength, 1), (21, .bipush 6, 2), (23, .isub, 1), (24, .if_icmp .gt 1089, 3), (27, .aload_n 0, 1), (28, .iload_n 3, 1), (29, .iaload, 1), (30, .bipush 63, 2), (32, .iand, 1), (33, .tableswitch 1074 0 33 #[151, 214, 237, 250, 273, 296, 329, 362, 405, 438, 471, 494, 517, 540, 563, 596, 629, 662, 685, 698, 721, 754, 777, 800, 823, 866, 909, 952, 965, 988, 1002, 1015, 1038, 1051], 151)]
set_option maxRecDepth 100000 in
theorem tk_p : ∀ q ∈ tl_p, decode code q.1 = .ok q.2 := by decide +kernel
def tl_0 : List (Nat × Instr × Nat) := [(184, .aload_n 1, 1), (185, .aload_n 0, 1), (186, .iload_n 3, 1), (187, .iconst 1, 1), (188, .iadd, 1), (189, .iaload, 1), (190, .aload_n 0, 1), (191, .iload_n 3, 1), (192, .iconst 2, 1), (193, .iadd, 1), (194, .iaload, 1), (195, .aload_n 0, 1), (196, .iload_n 3, 1), (197, .iconst 3, 1), (198, .iadd, 1), (199, .iaload, 1), (200, .aload_n 0, 1), (201, .iload_n 3, 1), (202, .iconst 4, 1), (203, .iadd, 1), (204, .iaload, 1), (205, .aload_n 0, 1), (206, .iload_n 3, 1), (207, .iconst 5, 1), (208, .iadd, 1), (209, .iaload, 1), (210, .invokevirtual 13, 3), (213, .aload_n 2, 1), (214, .aload_n 0, 1), (215, .iload_n 3, 1), (216, .iconst 1, 1), (217, .iadd, 1), (218, .iaload, 1), (219, .aload_n 0, 1), (220, .iload_n 3, 1), (221, .iconst 2, 1), (222, .iadd, 1), (223, .iaload, 1), (224, .aload_n 0, 1), (225, .iload_n 3, 1), (226, .iconst 3, 1), (227, .iadd, 1), (228, .iaload, 1), (229, .aload_n 0, 1), (230, .iload_n 3, 1), (231, .iconst 4, 1), (232, .iadd, 1), (233, .iaload, 1), (234, .aload_n 0, 1), (235, .iload_n 3, 1), (236, .iconst 5, 1), (237, .iadd, 1), (238, .iaload, 1), (239, .invokevirtual 17, 3), (242, .if_icmp .eq 865, 3), (245, .iconst 0, 1), (246, .ireturn, 1)]
set_option maxRecDepth 100000 in
theorem tk_0 : ∀ q ∈ tl_0, decode code q.1 = .ok q.2 := by decide +kernel
def tl_1 : List (Nat × Instr × Nat) := [(247, .aload_n 1, 1), (248, .aload_n 0, 1), (249, .iload_n 3, 1), (250, .iconst 1, 1), (251, .iadd, 1), (252, .iaload, 1), (253, .invokevirtual 18, 3), (256, .aload_n 2, 1), (257, .aload_n 0, 1), (258, .iload_n 3, 1), (259, .iconst 1, 1), (260, .iadd, 1), (261, .iaload, 1), (262, .invokevirtual 22, 3), (265, .if_icmp .eq 842, 3), (268, .iconst 0, 1), (269, .ireturn, 1)]
set_option maxRecDepth 100000 in
theorem tk_1 : ∀ q ∈ tl_1, decode code q.1 = .ok q.2 := by decide +kernel
def tl_2 : List (Nat × Instr × Nat) := [(270, .aload_n 1, 1), (271, .invokevirtual 23, 3), (274, .aload_n 2, 1), (275, .invokevirtual 27, 3), (278, .if_icmp .eq 829, 3), (281, .iconst 0, 1), (282, .ireturn, 1)]
set_option maxRecDepth 100000 in
theorem tk_2 : ∀ q ∈ tl_2, decode code q.1 = .ok q.2 := by decide +kernel
def tl_3 : List (Nat × Instr × Nat) := [(283, .aload_n 1, 1), (284, .aload_n 0, 1), (285, .iload_n 3, 1), (286, .iconst 1, 1), (287, .iadd, 1), (288, .iaload, 1), (289, .invokevirtual 28, 3), (292, .aload_n 2, 1), (293, .aload_n 0, 1), (294, .iload_n 3, 1), (295, .iconst 1, 1), (296, .iadd, 1), (297, .iaload, 1), (298, .invokevirtual 32, 3), (301, .if_icmp .eq 806, 3), (304, .iconst 0, 1), (305, .ireturn, 1)]
set_option maxRecDepth 100000 in
theorem tk_3 : ∀ q ∈ tl_3, decode code q.1 = .ok q.2 := by decide +kernel
def tl_4 : List (Nat × Instr × Nat) := [(306, .aload_n 1, 1), (307, .aload_n 0, 1), (308, .iload_n 3, 1), (309, .iconst 1, 1), (310, .iadd, 1), (311, .iaload, 1), (312, .invokevirtual 33, 3), (315, .aload_n 2, 1), (316, .aload_n 0, 1), (317, .iload_n 3, 1), (318, .iconst 1, 1), (319, .iadd, 1), (320, .iaload, 1), (321, .invokevirtual 36, 3), (324, .if_icmp .eq 783, 3), (327, .iconst 0, 1), (328, .ireturn, 1)]
set_option maxRecDepth 100000 in
theorem tk_4 : ∀ q ∈ tl_4, decode code q.1 = .ok q.2 := by decide +kernel
def tl_5 : List (Nat × Instr × Nat) := [(329, .aload_n 1, 1), (330, .aload_n 0, 1), (331, .iload_n 3, 1), (332, .iconst 1, 1), (333, .iadd, 1), (334, .iaload, 1), (335, .aload_n 0, 1), (336, .iload_n 3, 1), (337, .iconst 2, 1), (338, .iadd, 1), (339, .iaload, 1), (340, .invokevirtual 37, 3), (343, .aload_n 2, 1), (344, .aload_n 0, 1), (345, .iload_n 3, 1), (346, .iconst 1, 1), (347, .iadd, 1), (348, .iaload, 1), (349, .aload_n 0, 1), (350, .iload_n 3, 1), (351, .iconst 2, 1), (352, .iadd, 1), (353, .iaload, 1), (354, .invokevirtual 41, 3), (357, .if_icmp .eq 750, 3), (360, .iconst 0, 1), (361, .ireturn, 1)]
set_option maxRecDepth 100000 in
theorem tk_5 : ∀ q ∈ tl_5, decode code q.1 = .ok q.2 := by decide +kernel
def tl_6 : List (Nat × Instr × Nat) := [(362, .aload_n 1, 1), (363, .aload_n 0, 1), (364, .iload_n 3, 1), (365, .iconst 1, 1), (366, .iadd, 1), (367, .iaload, 1), (368, .aload_n 0, 1), (369, .iload_n 3, 1), (370, .iconst 2, 1), (371, .iadd, 1), (372, .iaload, 1), (373, .invokevirtual 42, 3), (376, .aload_n 2, 1), (377, .aload_n 0, 1), (378, .iload_n 3, 1), (379, .iconst 1, 1), (380, .iadd, 1), (381, .iaload, 1), (382, .aload_n 0, 1), (383, .iload_n 3, 1), (384, .iconst 2, 1), (385, .iadd, 1), (386, .iaload, 1), (387, .invokevirtual 45, 3), (390, .if_icmp .eq 717, 3), (393, .iconst 0, 1), (394, .ireturn, 1)]
set_option maxRecDepth 100000 in
theorem tk_6 : ∀ q ∈ tl_6, decode code q.1 = .ok q.2 := by decide +kernel
def tl_7 : List (Nat × Instr × Nat) := [(395, .aload_n 1, 1), (396, .aload_n 0, 1), (397, .iload_n 3, 1), (398, .iconst 1, 1), (399, .iadd, 1), (400, .iaload, 1), (401, .aload_n 0, 1), (402, .iload_n 3, 1), (403, .iconst 2, 1), (404, .iadd, 1), (405, .iaload, 1), (406, .aload_n 0, 1), (407, .iload_n 3, 1), (408, .iconst 3, 1), (409, .iadd, 1), (410, .iaload, 1), (411, .invokevirtual 46, 3), (414, .aload_n 2, 1), (415, .aload_n 0, 1), (416, .iload_n 3, 1), (417, .iconst 1, 1), (418, .iadd, 1), (419, .iaload, 1), (420, .aload_n 0, 1), (421, .iload_n 3, 1), (422, .iconst 2, 1), (423, .iadd, 1), (424, .iaload, 1), (425, .aload_n 0, 1), (426, .iload_n 3, 1), (427, .iconst 3, 1), (428, .iadd, 1), (429, .iaload, 1), (430, .invokevirtual 50, 3), (433, .if_icmp .eq 674, 3), (436, .iconst 0, 1), (437, .ireturn, 1)]
set_option maxRecDepth 100000 in
theorem tk_7 : ∀ q ∈ tl_7, decode code q.1 = .ok q.2 := by decide +kernel
def tl_8 : List (Nat × Instr × Nat) := [(438, .aload_n 1, 1), (439, .aload_n 0, 1), (440, .iload_n 3, 1), (441, .iconst 1, 1), (442, .iadd, 1), (443, .iaload, 1), (444, .aload_n 0, 1), (445, .iload_n 3, 1), (446, .iconst 2, 1), (447, .iadd, 1), (448, .iaload, 1), (449, .invokevirtual 51, 3), (452, .aload_n 2, 1), (453, .aload_n 0, 1), (454, .iload_n 3, 1), (455, .iconst 1, 1), (456, .iadd, 1), (457, .iaload, 1), (458, .aload_n 0, 1), (459, .iload_n 3, 1), (460, .iconst 2, 1), (461, .iadd, 1), (462, .iaload, 1), (463, .invokevirtual 54, 3), (466, .if_icmp .eq 641, 3), (469, .iconst 0, 1), (470, .ireturn, 1)]
set_option maxRecDepth 100000 in
theorem tk_8 : ∀ q ∈ tl_8, decode code q.1 = .ok q.2 := by decide +kernel
def tl_9 : List (Nat × Instr × Nat) := [(471, .aload_n 1, 1), (472, .aload_n 0, 1), (473, .iload_n 3, 1), (474, .iconst 1, 1), (475, .iadd, 1), (476, .iaload, 1), (477, .aload_n 0, 1), (478, .iload_n 3, 1), (479, .iconst 2, 1), (480, .iadd, 1), (481, .iaload, 1), (482, .invokevirtual 55, 3), (485, .aload_n 2, 1), (486, .aload_n 0, 1), (487, .iload_n 3, 1), (488, .iconst 1, 1), (489, .iadd, 1), (490, .iaload, 1), (491, .aload_n 0, 1), (492, .iload_n 3, 1), (493, .iconst 2, 1), (494, .iadd, 1), (495, .iaload, 1), (496, .invokevirtual 58, 3), (499, .if_icmp .eq 608, 3), (502, .iconst 0, 1), (503, .ireturn, 1)]
set_option maxRecDepth 100000 in
theorem tk_9 : ∀ q ∈ tl_9, decode code q.1 = .ok q.2 := by decide +kernel
def tl_10 : List (Nat × Instr × Nat) := [(504, .aload_n 1, 1), (505, .aload_n 0, 1), (506, .iload_n 3, 1), (507, .iconst 1, 1), (508, .iadd, 1), (509, .iaload, 1), (510, .invokevirtual 59, 3), (513, .aload_n 2, 1), (514, .aload_n 0, 1), (515, .iload_n 3, 1), (516, .iconst 1, 1), (517, .iadd, 1), (518, .iaload, 1), (519, .invokevirtual 62, 3), (522, .if_icmp .eq 585, 3), (525, .iconst 0, 1), (526, .ireturn, 1)]
set_option maxRecDepth 100000 in
theorem tk_10 : ∀ q ∈ tl_10, decode code q.1 = .ok q.2 := by decide +kernel
def tl_11 : List (Nat × Instr × Nat) := [(527, .aload_n 1, 1), (528, .aload_n 0, 1), (529, .iload_n 3, 1), (530, .iconst 1, 1), (531, .iadd, 1), (532, .iaload, 1), (533, .invokevirtual 63, 3), (536, .aload_n 2, 1), (537, .aload_n 0, 1), (538, .iload_n 3, 1), (539, .iconst 1, 1), (540, .iadd, 1), (541, .iaload, 1), (542, .invokevirtual 66, 3), (545, .if_icmp .eq 562, 3), (548, .iconst 0, 1), (549, .ireturn, 1)]
set_option maxRecDepth 100000 in
theorem tk_11 : ∀ q ∈ tl_11, decode code q.1 = .ok q.2 := by decide +kernel
def tl_12 : List (Nat × Instr × Nat) := [(550, .aload_n 1, 1), (551, .aload_n 0, 1), (552, .iload_n 3, 1), (553, .iconst 1, 1), (554, .iadd, 1), (555, .iaload, 1), (556, .invokevirtual 67, 3), (559, .aload_n 2, 1), (560, .aload_n 0, 1), (561, .iload_n 3, 1), (562, .iconst 1, 1), (563, .iadd, 1), (564, .iaload, 1), (565, .invokevirtual 70, 3), (568, .if_icmp .eq 539, 3), (571, .iconst 0, 1), (572, .ireturn, 1)]
set_option maxRecDepth 100000 in
theorem tk_12 : ∀ q ∈ tl_12, decode code q.1 = .ok q.2 := by decide +kernel
def tl_13 : List (Nat × Instr × Nat) := [(573, .aload_n 1, 1), (574, .aload_n 0, 1), (575, .iload_n 3, 1), (576, .iconst 1, 1), (577, .iadd, 1), (578, .iaload, 1), (579, .invokevirtual 71, 3), (582, .aload_n 2, 1), (583, .aload_n 0, 1), (584, .iload_n 3, 1), (585, .iconst 1, 1), (586, .iadd, 1), (587, .iaload, 1), (588, .invokevirtual 74, 3), (591, .if_icmp .eq 516, 3), (594, .iconst 0, 1), (595, .ireturn, 1)]
set_option maxRecDepth 100000 in
theorem tk_13 : ∀ q ∈ tl_13, decode code q.1 = .ok q.2 := by decide +kernel
def tl_14 : List (Nat × Instr × Nat) := [(596, .aload_n 1, 1), (597, .aload_n 0, 1), (598, .iload_n 3, 1), (599, .iconst 1, 1), (600, .iadd, 1), (601, .iaload, 1), (602, .aload_n 0, 1), (603, .iload_n 3, 1), (604, .iconst 2, 1), (605, .iadd, 1), (606, .iaload, 1), (607, .invokevirtual 75, 3), (610, .aload_n 2, 1), (611, .aload_n 0, 1), (612, .iload_n 3, 1), (613, .iconst 1, 1), (614, .iadd, 1), (615, .iaload, 1), (616, .aload_n 0, 1), (617, .iload_n 3, 1), (618, .iconst 2, 1), (619, .iadd, 1), (620, .iaload, 1), (621, .invokevirtual 78, 3), (624, .if_icmp .eq 483, 3), (627, .iconst 0, 1), (628, .ireturn, 1)]
set_option maxRecDepth 100000 in
theorem tk_14 : ∀ q ∈ tl_14, decode code q.1 = .ok q.2 := by decide +kernel
def tl_15 : List (Nat × Instr × Nat) := [(629, .aload_n 1, 1), (630, .aload_n 0, 1), (631, .iload_n 3, 1), (632, .iconst 1, 1), (633, .iadd, 1), (634, .iaload, 1), (635, .aload_n 0, 1), (636, .iload_n 3, 1), (637, .iconst 2, 1), (638, .iadd, 1), (639, .iaload, 1), (640, .invokevirtual 79, 3), (643, .aload_n 2, 1), (644, .aload_n 0, 1), (645, .iload_n 3, 1), (646, .iconst 1, 1), (647, .iadd, 1), (648, .iaload, 1), (649, .aload_n 0, 1), (650, .iload_n 3, 1), (651, .iconst 2, 1), (652, .iadd, 1), (653, .iaload, 1), (654, .invokevirtual 82, 3), (657, .if_icmp .eq 450, 3), (660, .iconst 0, 1), (661, .ireturn, 1)]
set_option maxRecDepth 100000 in
theorem tk_15 : ∀ q ∈ tl_15, decode code q.1 = .ok q.2 := by decide +kernel
def tl_16 : List (Nat × Instr × Nat) := [(662, .aload_n 1, 1), (663, .aload_n 0, 1), (664, .iload_n 3, 1), (665, .iconst 1, 1), (666, .iadd, 1), (667, .iaload, 1), (668, .aload_n 0, 1), (669, .iload_n 3, 1), (670, .iconst 2, 1), (671, .iadd, 1), (672, .iaload, 1), (673, .invokevirtual 83, 3), (676, .aload_n 2, 1), (677, .aload_n 0, 1), (678, .iload_n 3, 1), (679, .iconst 1, 1), (680, .iadd, 1), (681, .iaload, 1), (682, .aload_n 0, 1), (683, .iload_n 3, 1), (684, .iconst 2, 1), (685, .iadd, 1), (686, .iaload, 1), (687, .invokevirtual 86, 3), (690, .if_icmp .eq 417, 3), (693, .iconst 0, 1), (694, .ireturn, 1)]
set_option maxRecDepth 100000 in
theorem tk_16 : ∀ q ∈ tl_16, decode code q.1 = .ok q.2 := by decide +kernel
def tl_17 : List (Nat × Instr × Nat) := [(695, .aload_n 1, 1), (696, .aload_n 0, 1), (697, .iload_n 3, 1), (698, .iconst 1, 1), (699, .iadd, 1), (700, .iaload, 1), (701, .invokevirtual 87, 3), (704, .aload_n 2, 1), (705, .aload_n 0, 1), (706, .iload_n 3, 1), (707, .iconst 1, 1), (708, .iadd, 1), (709, .iaload, 1), (710, .invokevirtual 90, 3), (713, .if_icmp .eq 394, 3), (716, .iconst 0, 1), (717, .ireturn, 1)]
set_option maxRecDepth 100000 in
theorem tk_17 : ∀ q ∈ tl_17, decode code q.1 = .ok q.2 := by decide +kernel
def tl_18 : List (Nat × Instr × Nat) := [(718, .aload_n 1, 1), (719, .invokevirtual 91, 3), (722, .aload_n 2, 1), (723, .invokevirtual 94, 3), (726, .if_icmp .eq 381, 3), (729, .iconst 0, 1), (730, .ireturn, 1)]
set_option maxRecDepth 100000 in
theorem tk_18 : ∀ q ∈ tl_18, decode code q.1 = .ok q.2 := by decide +kernel
def tl_19 : List (Nat × Instr × Nat) := [(731, .aload_n 1, 1), (732, .aload_n 0, 1), (733, .iload_n 3, 1), (734, .iconst 1, 1), (735, .iadd, 1), (736, .iaload, 1), (737, .invokevirtual 95, 3), (740, .aload_n 2, 1), (741, .aload_n 0, 1), (742, .iload_n 3, 1), (743, .iconst 1, 1), (744, .iadd, 1), (745, .iaload, 1), (746, .invokevirtual 98, 3), (749, .if_icmp .eq 358, 3), (752, .iconst 0, 1), (753, .ireturn, 1)]
set_option maxRecDepth 100000 in
theorem tk_19 : ∀ q ∈ tl_19, decode code q.1 = .ok q.2 := by decide +kernel
def tl_20 : List (Nat × Instr × Nat) := [(754, .aload_n 1, 1), (755, .aload_n 0, 1), (756, .iload_n 3, 1), (757, .iconst 1, 1), (758, .iadd, 1), (759, .iaload, 1), (760, .aload_n 0, 1), (761, .iload_n 3, 1), (762, .iconst 2, 1), (763, .iadd, 1), (764, .iaload, 1), (765, .invokevirtual 99, 3), (768, .aload_n 2, 1), (769, .aload_n 0, 1), (770, .iload_n 3, 1), (771, .iconst 1, 1), (772, .iadd, 1), (773, .iaload, 1), (774, .aload_n 0, 1), (775, .iload_n 3, 1), (776, .iconst 2, 1), (777, .iadd, 1), (778, .iaload, 1), (779, .invokevirtual 102, 3), (782, .if_icmp .eq 325, 3), (785, .iconst 0, 1), (786, .ireturn, 1)]
set_option maxRecDepth 100000 in
theorem tk_20 : ∀ q ∈ tl_20, decode code q.1 = .ok q.2 := by decide +kernel
def tl_21 : List (Nat × Instr × Nat) := [(787, .aload_n 1, 1), (788, .aload_n 0, 1), (789, .iload_n 3, 1), (790, .iconst 1, 1), (791, .iadd, 1), (792, .iaload, 1), (793, .invokevirtual 103, 3), (796, .aload_n 2, 1), (797, .aload_n 0, 1), (798, .iload_n 3, 1), (799, .iconst 1, 1), (800, .iadd, 1), (801, .iaload, 1), (802, .invokevirtual 106, 3), (805, .if_icmp .eq 302, 3), (808, .iconst 0, 1), (809, .ireturn, 1)]
set_option maxRecDepth 100000 in
theorem tk_21 : ∀ q ∈ tl_21, decode code q.1 = .ok q.2 := by decide +kernel
def tl_22 : List (Nat × Instr × Nat) := [(810, .aload_n 1, 1), (811, .aload_n 0, 1), (812, .iload_n 3, 1), (813, .iconst 1, 1), (814, .iadd, 1), (815, .iaload, 1), (816, .invokevirtual 107, 3), (819, .aload_n 2, 1), (820, .aload_n 0, 1), (821, .iload_n 3, 1), (822, .iconst 1, 1), (823, .iadd, 1), (824, .iaload, 1), (825, .invokevirtual 110, 3), (828, .if_icmp .eq 279, 3), (831, .iconst 0, 1), (832, .ireturn, 1)]
set_option maxRecDepth 100000 in
theorem tk_22 : ∀ q ∈ tl_22, decode code q.1 = .ok q.2 := by decide +kernel
def tl_23 : List (Nat × Instr × Nat) := [(833, .aload_n 1, 1), (834, .aload_n 0, 1), (835, .iload_n 3, 1), (836, .iconst 1, 1), (837, .iadd, 1), (838, .iaload, 1), (839, .invokevirtual 111, 3), (842, .aload_n 2, 1), (843, .aload_n 0, 1), (844, .iload_n 3, 1), (845, .iconst 1, 1), (846, .iadd, 1), (847, .iaload, 1), (848, .invokevirtual 114, 3), (851, .if_icmp .eq 256, 3), (854, .iconst 0, 1), (855, .ireturn, 1)]
set_option maxRecDepth 100000 in
theorem tk_23 : ∀ q ∈ tl_23, decode code q.1 = .ok q.2 := by decide +kernel
def tl_24 : List (Nat × Instr × Nat) := [(856, .aload_n 1, 1), (857, .aload_n 0, 1), (858, .iload_n 3, 1), (859, .iconst 1, 1), (860, .iadd, 1), (861, .iaload, 1), (862, .aload_n 0, 1), (863, .iload_n 3, 1), (864, .iconst 2, 1), (865, .iadd, 1), (866, .iaload, 1), (867, .aload_n 0, 1), (868, .iload_n 3, 1), (869, .iconst 3, 1), (870, .iadd, 1), (871, .iaload, 1), (872, .invokevirtual 115, 3), (875, .aload_n 2, 1), (876, .aload_n 0, 1), (877, .iload_n 3, 1), (878, .iconst 1, 1), (879, .iadd, 1), (880, .iaload, 1), (881, .aload_n 0, 1), (882, .iload_n 3, 1), (883, .iconst 2, 1), (884, .iadd, 1), (885, .iaload, 1), (886, .aload_n 0, 1), (887, .iload_n 3, 1), (888, .iconst 3, 1), (889, .iadd, 1), (890, .iaload, 1), (891, .invokevirtual 119, 3), (894, .if_icmp .eq 213, 3), (897, .iconst 0, 1), (898, .ireturn, 1)]
set_option maxRecDepth 100000 in
theorem tk_24 : ∀ q ∈ tl_24, decode code q.1 = .ok q.2 := by decide +kernel
def tl_25 : List (Nat × Instr × Nat) := [(899, .aload_n 1, 1), (900, .aload_n 0, 1), (901, .iload_n 3, 1), (902, .iconst 1, 1), (903, .iadd, 1), (904, .iaload, 1), (905, .aload_n 0, 1), (906, .iload_n 3, 1), (907, .iconst 2, 1), (908, .iadd, 1), (909, .iaload, 1), (910, .aload_n 0, 1), (911, .iload_n 3, 1), (912, .iconst 3, 1), (913, .iadd, 1), (914, .iaload, 1), (915, .invokevirtual 120, 3), (918, .aload_n 2, 1), (919, .aload_n 0, 1), (920, .iload_n 3, 1), (921, .iconst 1, 1), (922, .iadd, 1), (923, .iaload, 1), (924, .aload_n 0, 1), (925, .iload_n 3, 1), (926, .iconst 2, 1), (927, .iadd, 1), (928, .iaload, 1), (929, .aload_n 0, 1), (930, .iload_n 3, 1), (931, .iconst 3, 1), (932, .iadd, 1), (933, .iaload, 1), (934, .invokevirtual 123, 3), (937, .if_icmp .eq 170, 3), (940, .iconst 0, 1), (941, .ireturn, 1)]
set_option maxRecDepth 100000 in
theorem tk_25 : ∀ q ∈ tl_25, decode code q.1 = .ok q.2 := by decide +kernel
def tl_26 : List (Nat × Instr × Nat) := [(942, .aload_n 1, 1), (943, .aload_n 0, 1), (944, .iload_n 3, 1), (945, .iconst 1, 1), (946, .iadd, 1), (947, .iaload, 1), (948, .aload_n 0, 1), (949, .iload_n 3, 1), (950, .iconst 2, 1), (951, .iadd, 1), (952, .iaload, 1), (953, .aload_n 0, 1), (954, .iload_n 3, 1), (955, .iconst 3, 1), (956, .iadd, 1), (957, .iaload, 1), (958, .invokevirtual 124, 3), (961, .aload_n 2, 1), (962, .aload_n 0, 1), (963, .iload_n 3, 1), (964, .iconst 1, 1), (965, .iadd, 1), (966, .iaload, 1), (967, .aload_n 0, 1), (968, .iload_n 3, 1), (969, .iconst 2, 1), (970, .iadd, 1), (971, .iaload, 1), (972, .aload_n 0, 1), (973, .iload_n 3, 1), (974, .iconst 3, 1), (975, .iadd, 1), (976, .iaload, 1), (977, .invokevirtual 127, 3), (980, .if_icmp .eq 127, 3), (983, .iconst 0, 1), (984, .ireturn, 1)]
set_option maxRecDepth 100000 in
theorem tk_26 : ∀ q ∈ tl_26, decode code q.1 = .ok q.2 := by decide +kernel
def tl_27 : List (Nat × Instr × Nat) := [(985, .aload_n 1, 1), (986, .invokevirtual 128, 3), (989, .aload_n 2, 1), (990, .invokevirtual 132, 3), (993, .if_icmp .eq 114, 3), (996, .iconst 0, 1), (997, .ireturn, 1)]
set_option maxRecDepth 100000 in
theorem tk_27 : ∀ q ∈ tl_27, decode code q.1 = .ok q.2 := by decide +kernel
def tl_28 : List (Nat × Instr × Nat) := [(998, .aload_n 1, 1), (999, .aload_n 0, 1), (1000, .iload_n 3, 1), (1001, .iconst 1, 1), (1002, .iadd, 1), (1003, .iaload, 1), (1004, .invokevirtual 133, 3), (1007, .aload_n 2, 1), (1008, .aload_n 0, 1), (1009, .iload_n 3, 1), (1010, .iconst 1, 1), (1011, .iadd, 1), (1012, .iaload, 1), (1013, .invokevirtual 136, 3), (1016, .if_icmp .eq 91, 3), (1019, .iconst 0, 1), (1020, .ireturn, 1)]
set_option maxRecDepth 100000 in
theorem tk_28 : ∀ q ∈ tl_28, decode code q.1 = .ok q.2 := by decide +kernel
def tl_29 : List (Nat × Instr × Nat) := [(1021, .aload_n 1, 1), (1022, .invokevirtual 137, 3), (1025, .aload_n 2, 1), (1026, .invokevirtual 141, 3), (1029, .lcmp, 1), (1030, .ifCond .eq 77, 3), (1033, .iconst 0, 1), (1034, .ireturn, 1)]
set_option maxRecDepth 100000 in
theorem tk_29 : ∀ q ∈ tl_29, decode code q.1 = .ok q.2 := by decide +kernel
def tl_30 : List (Nat × Instr × Nat) := [(1035, .aload_n 1, 1), (1036, .invokevirtual 142, 3), (1039, .aload_n 2, 1), (1040, .invokevirtual 145, 3), (1043, .if_icmp .eq 64, 3), (1046, .iconst 0, 1), (1047, .ireturn, 1)]
set_option maxRecDepth 100000 in
theorem tk_30 : ∀ q ∈ tl_30, decode code q.1 = .ok q.2 := by decide +kernel
def tl_31 : List (Nat × Instr × Nat) := [(1048, .aload_n 1, 1), (1049, .aload_n 0, 1), (1050, .iload_n 3, 1), (1051, .iconst 1, 1), (1052, .iadd, 1), (1053, .iaload, 1), (1054, .invokevirtual 146, 3), (1057, .aload_n 2, 1), (1058, .aload_n 0, 1), (1059, .iload_n 3, 1), (1060, .iconst 1, 1), (1061, .iadd, 1), (1062, .iaload, 1), (1063, .invokevirtual 149, 3), (1066, .if_icmp .eq 41, 3), (1069, .iconst 0, 1), (1070, .ireturn, 1)]
set_option maxRecDepth 100000 in
theorem tk_31 : ∀ q ∈ tl_31, decode code q.1 = .ok q.2 := by decide +kernel
def tl_32 : List (Nat × Instr × Nat) := [(1071, .aload_n 1, 1), (1072, .invokevirtual 150, 3), (1075, .aload_n 2, 1), (1076, .invokevirtual 153, 3), (1079, .if_icmp .eq 28, 3), (1082, .iconst 0, 1), (1083, .ireturn, 1)]
set_option maxRecDepth 100000 in
theorem tk_32 : ∀ q ∈ tl_32, decode code q.1 = .ok q.2 := by decide +kernel
def tl_33 : List (Nat × Instr × Nat) := [(1084, .aload_n 1, 1), (1085, .aload_n 0, 1), (1086, .iload_n 3, 1), (1087, .iconst 1, 1), (1088, .iadd, 1), (1089, .iaload, 1), (1090, .invokevirtual 154, 3), (1093, .aload_n 2, 1), (1094, .aload_n 0, 1), (1095, .iload_n 3, 1), (1096, .iconst 1, 1), (1097, .iadd, 1), (1098, .iaload, 1), (1099, .invokevirtual 157, 3), (1102, .if_icmp .eq 5, 3), (1105, .iconst 0, 1), (1106, .ireturn, 1)]
set_option maxRecDepth 100000 in
theorem tk_33 : ∀ q ∈ tl_33, decode code q.1 = .ok q.2 := by decide +kernel
def tl_e : List (Nat × Instr × Nat) := [(1107, .iinc 3 6, 3), (1110, .goto (-1092), 3), (1113, .iconst 1, 1), (1114, .ireturn, 1)]
set_option maxRecDepth 100000 in
theorem tk_e : ∀ q ∈ tl_e, decode code q.1 = .ok q.2 := by decide +kernel
/-- feed -/
def lw_c0 (n0 : Nat) (xs : Nat → Int32) (r : Int32 → zM) (a b : Nat) (i : Int32) : zM := z_ld n0 xs (i + 1) fun x1 => z_ld n0 xs (i + 2) fun x2 => z_ld n0 xs (i + 3) fun x3 => z_ld n0 xs (i + 4) fun x4 => z_ld n0 xs (i + 5) fun x5 => z_rc 11 a (z_ci (X11_feed a x1 x2 x3 x4 x5) fun y1 => z_ld n0 xs (i + 1) fun w1 => z_ld n0 xs (i + 2) fun w2 => z_ld n0 xs (i + 3) fun w3 => z_ld n0 xs (i + 4) fun w4 => z_ld n0 xs (i + 5) fun w5 => z_rc 12 b (z_ci (X12_feed b w1 w2 w3 w4 w5) fun y2 => z_if (y1 = y2) (r (i + 6)) (z_ret (some (.int 0)))))
/-- end -/
def lw_c1 (n0 : Nat) (xs : Nat → Int32) (r : Int32 → zM) (a b : Nat) (i : Int32) : zM := z_ld n0 xs (i + 1) fun x1 => z_rc 11 a (z_ci (X11_end a x1) fun y1 => z_ld n0 xs (i + 1) fun w1 => z_rc 12 b (z_ci (X12_end b w1) fun y2 => z_if (y1 = y2) (r (i + 6)) (z_ret (some (.int 0)))))
/-- church -/
def lw_c2 (n0 : Nat) (xs : Nat → Int32) (r : Int32 → zM) (a b : Nat) (i : Int32) : zM := z_rc 11 a (z_ci (X11_church a) fun y1 => z_rc 12 b (z_ci (X12_church b) fun y2 => z_if (y1 = y2) (r (i + 6)) (z_ret (some (.int 0)))))
/-- fault -/
def lw_c3 (n0 : Nat) (xs : Nat → Int32) (r : Int32 → zM) (a b : Nat) (i : Int32) : zM := z_ld n0 xs (i + 1) fun x1 => z_rc 11 a (z_ci (X11_fault a x1) fun y1 => z_ld n0 xs (i + 1) fun w1 => z_rc 12 b (z_ci (X12_fault b w1) fun y2 => z_if (y1 = y2) (r (i + 6)) (z_ret (some (.int 0)))))
/-- has -/
def lw_c4 (n0 : Nat) (xs : Nat → Int32) (r : Int32 → zM) (a b : Nat) (i : Int32) : zM := z_ld n0 xs (i + 1) fun x1 => z_rc 11 a (z_ci (X11_has a x1) fun y1 => z_ld n0 xs (i + 1) fun w1 => z_rc 12 b (z_ci (X12_has b w1) fun y2 => z_if (y1 = y2) (r (i + 6)) (z_ret (some (.int 0)))))
/-- letter -/
def lw_c5 (n0 : Nat) (xs : Nat → Int32) (r : Int32 → zM) (a b : Nat) (i : Int32) : zM := z_ld n0 xs (i + 1) fun x1 => z_ld n0 xs (i + 2) fun x2 => z_rc 11 a (z_ci (X11_letter a x1 x2) fun y1 => z_ld n0 xs (i + 1) fun w1 => z_ld n0 xs (i + 2) fun w2 => z_rc 12 b (z_ci (X12_letter b w1 w2) fun y2 => z_if (y1 = y2) (r (i + 6)) (z_ret (some (.int 0)))))
/-- person -/
def lw_c6 (n0 : Nat) (xs : Nat → Int32) (r : Int32 → zM) (a b : Nat) (i : Int32) : zM := z_ld n0 xs (i + 1) fun x1 => z_ld n0 xs (i + 2) fun x2 => z_rc 11 a (z_ci (X11_person a x1 x2) fun y1 => z_ld n0 xs (i + 1) fun w1 => z_ld n0 xs (i + 2) fun w2 => z_rc 12 b (z_ci (X12_person b w1 w2) fun y2 => z_if (y1 = y2) (r (i + 6)) (z_ret (some (.int 0)))))
/-- pair -/
def lw_c7 (n0 : Nat) (xs : Nat → Int32) (r : Int32 → zM) (a b : Nat) (i : Int32) : zM := z_ld n0 xs (i + 1) fun x1 => z_ld n0 xs (i + 2) fun x2 => z_ld n0 xs (i + 3) fun x3 => z_rc 11 a (z_ci (X11_pair a x1 x2 x3) fun y1 => z_ld n0 xs (i + 1) fun w1 => z_ld n0 xs (i + 2) fun w2 => z_ld n0 xs (i + 3) fun w3 => z_rc 12 b (z_ci (X12_pair b w1 w2 w3) fun y2 => z_if (y1 = y2) (r (i + 6)) (z_ret (some (.int 0)))))
/-- kept -/
def lw_c8 (n0 : Nat) (xs : Nat → Int32) (r : Int32 → zM) (a b : Nat) (i : Int32) : zM := z_ld n0 xs (i + 1) fun x1 => z_ld n0 xs (i + 2) fun x2 => z_rc 11 a (z_ci (X11_kept a x1 x2) fun y1 => z_ld n0 xs (i + 1) fun w1 => z_ld n0 xs (i + 2) fun w2 => z_rc 12 b (z_ci (X12_kept b w1 w2) fun y2 => z_if (y1 = y2) (r (i + 6)) (z_ret (some (.int 0)))))
/-- later -/
def lw_c9 (n0 : Nat) (xs : Nat → Int32) (r : Int32 → zM) (a b : Nat) (i : Int32) : zM := z_ld n0 xs (i + 1) fun x1 => z_ld n0 xs (i + 2) fun x2 => z_rc 11 a (z_ci (X11_later a x1 x2) fun y1 => z_ld n0 xs (i + 1) fun w1 => z_ld n0 xs (i + 2) fun w2 => z_rc 12 b (z_ci (X12_later b w1 w2) fun y2 => z_if (y1 = y2) (r (i + 6)) (z_ret (some (.int 0)))))
/-- when -/
def lw_c10 (n0 : Nat) (xs : Nat → Int32) (r : Int32 → zM) (a b : Nat) (i : Int32) : zM := z_ld n0 xs (i + 1) fun x1 => z_rc 11 a (z_ci (X11_when a x1) fun y1 => z_ld n0 xs (i + 1) fun w1 => z_rc 12 b (z_ci (X12_when b w1) fun y2 => z_if (y1 = y2) (r (i + 6)) (z_ret (some (.int 0)))))
/-- pairs -/
def lw_c11 (n0 : Nat) (xs : Nat → Int32) (r : Int32 → zM) (a b : Nat) (i : Int32) : zM := z_ld n0 xs (i + 1) fun x1 => z_rc 11 a (z_ci (X11_pairs a x1) fun y1 => z_ld n0 xs (i + 1) fun w1 => z_rc 12 b (z_ci (X12_pairs b w1) fun y2 => z_if (y1 = y2) (r (i + 6)) (z_ret (some (.int 0)))))
/-- match -/
def lw_c12 (n0 : Nat) (xs : Nat → Int32) (r : Int32 → zM) (a b : Nat) (i : Int32) : zM := z_ld n0 xs (i + 1) fun x1 => z_rc 11 a (z_ci (X11_match a x1) fun y1 => z_ld n0 xs (i + 1) fun w1 => z_rc 12 b (z_ci (X12_match b w1) fun y2 => z_if (y1 = y2) (r (i + 6)) (z_ret (some (.int 0)))))
/-- steady -/
def lw_c13 (n0 : Nat) (xs : Nat → Int32) (r : Int32 → zM) (a b : Nat) (i : Int32) : zM := z_ld n0 xs (i + 1) fun x1 => z_rc 11 a (z_ci (X11_steady a x1) fun y1 => z_ld n0 xs (i + 1) fun w1 => z_rc 12 b (z_ci (X12_steady b w1) fun y2 => z_if (y1 = y2) (r (i + 6)) (z_ret (some (.int 0)))))
/-- rather -/
def lw_c14 (n0 : Nat) (xs : Nat → Int32) (r : Int32 → zM) (a b : Nat) (i : Int32) : zM := z_ld n0 xs (i + 1) fun x1 => z_ld n0 xs (i + 2) fun x2 => z_rc 11 a (z_ci (X11_rather a x1 x2) fun y1 => z_ld n0 xs (i + 1) fun w1 => z_ld n0 xs (i + 2) fun w2 => z_rc 12 b (z_ci (X12_rather b w1 w2) fun y2 => z_if (y1 = y2) (r (i + 6)) (z_ret (some (.int 0)))))
/-- teach -/
def lw_c15 (n0 : Nat) (xs : Nat → Int32) (r : Int32 → zM) (a b : Nat) (i : Int32) : zM := z_ld n0 xs (i + 1) fun x1 => z_ld n0 xs (i + 2) fun x2 => z_rc 11 a (z_ci (X11_teach a x1 x2) fun y1 => z_ld n0 xs (i + 1) fun w1 => z_ld n0 xs (i + 2) fun w2 => z_rc 12 b (z_ci (X12_teach b w1 w2) fun y2 => z_if (y1 = y2) (r (i + 6)) (z_ret (some (.int 0)))))
/-- change -/
def lw_c16 (n0 : Nat) (xs : Nat → Int32) (r : Int32 → zM) (a b : Nat) (i : Int32) : zM := z_ld n0 xs (i + 1) fun x1 => z_ld n0 xs (i + 2) fun x2 => z_rc 11 a (z_ci (X11_change a x1 x2) fun y1 => z_ld n0 xs (i + 1) fun w1 => z_ld n0 xs (i + 2) fun w2 => z_rc 12 b (z_ci (X12_change b w1 w2) fun y2 => z_if (y1 = y2) (r (i + 6)) (z_ret (some (.int 0)))))
/-- odds -/
def lw_c17 (n0 : Nat) (xs : Nat → Int32) (r : Int32 → zM) (a b : Nat) (i : Int32) : zM := z_ld n0 xs (i + 1) fun x1 => z_rc 11 a (z_ci (X11_odds a x1) fun y1 => z_ld n0 xs (i + 1) fun w1 => z_rc 12 b (z_ci (X12_odds b w1) fun y2 => z_if (y1 = y2) (r (i + 6)) (z_ret (some (.int 0)))))
/-- see -/
def lw_c18 (n0 : Nat) (xs : Nat → Int32) (r : Int32 → zM) (a b : Nat) (i : Int32) : zM := z_rc 11 a (z_ci (X11_see a) fun y1 => z_rc 12 b (z_ci (X12_see b) fun y2 => z_if (y1 = y2) (r (i + 6)) (z_ret (some (.int 0)))))
/-- sizes -/
def lw_c19 (n0 : Nat) (xs : Nat → Int32) (r : Int32 → zM) (a b : Nat) (i : Int32) : zM := z_ld n0 xs (i + 1) fun x1 => z_rc 11 a (z_ci (X11_sizes a x1) fun y1 => z_ld n0 xs (i + 1) fun w1 => z_rc 12 b (z_ci (X12_sizes b w1) fun y2 => z_if (y1 = y2) (r (i + 6)) (z_ret (some (.int 0)))))
/-- tells -/
def lw_c20 (n0 : Nat) (xs : Nat → Int32) (r : Int32 → zM) (a b : Nat) (i : Int32) : zM := z_ld n0 xs (i + 1) fun x1 => z_ld n0 xs (i + 2) fun x2 => z_rc 11 a (z_ci (X11_tells a x1 x2) fun y1 => z_ld n0 xs (i + 1) fun w1 => z_ld n0 xs (i + 2) fun w2 => z_rc 12 b (z_ci (X12_tells b w1 w2) fun y2 => z_if (y1 = y2) (r (i + 6)) (z_ret (some (.int 0)))))
/-- rounds -/
def lw_c21 (n0 : Nat) (xs : Nat → Int32) (r : Int32 → zM) (a b : Nat) (i : Int32) : zM := z_ld n0 xs (i + 1) fun x1 => z_rc 11 a (z_ci (X11_rounds a x1) fun y1 => z_ld n0 xs (i + 1) fun w1 => z_rc 12 b (z_ci (X12_rounds b w1) fun y2 => z_if (y1 = y2) (r (i + 6)) (z_ret (some (.int 0)))))
/-- chance -/
def lw_c22 (n0 : Nat) (xs : Nat → Int32) (r : Int32 → zM) (a b : Nat) (i : Int32) : zM := z_ld n0 xs (i + 1) fun x1 => z_rc 11 a (z_ci (X11_chance a x1) fun y1 => z_ld n0 xs (i + 1) fun w1 => z_rc 12 b (z_ci (X12_chance b w1) fun y2 => z_if (y1 = y2) (r (i + 6)) (z_ret (some (.int 0)))))
/-- part -/
def lw_c23 (n0 : Nat) (xs : Nat → Int32) (r : Int32 → zM) (a b : Nat) (i : Int32) : zM := z_ld n0 xs (i + 1) fun x1 => z_rc 11 a (z_ci (X11_part a x1) fun y1 => z_ld n0 xs (i + 1) fun w1 => z_rc 12 b (z_ci (X12_part b w1) fun y2 => z_if (y1 = y2) (r (i + 6)) (z_ret (some (.int 0)))))
/-- learn -/
def lw_c24 (n0 : Nat) (xs : Nat → Int32) (r : Int32 → zM) (a b : Nat) (i : Int32) : zM := z_ld n0 xs (i + 1) fun x1 => z_ld n0 xs (i + 2) fun x2 => z_ld n0 xs (i + 3) fun x3 => z_rc 11 a (z_ci (X11_learn a x1 x2 x3) fun y1 => z_ld n0 xs (i + 1) fun w1 => z_ld n0 xs (i + 2) fun w2 => z_ld n0 xs (i + 3) fun w3 => z_rc 12 b (z_ci (X12_learn b w1 w2 w3) fun y2 => z_if (y1 = y2) (r (i + 6)) (z_ret (some (.int 0)))))
/-- like -/
def lw_c25 (n0 : Nat) (xs : Nat → Int32) (r : Int32 → zM) (a b : Nat) (i : Int32) : zM := z_ld n0 xs (i + 1) fun x1 => z_ld n0 xs (i + 2) fun x2 => z_ld n0 xs (i + 3) fun x3 => z_rc 11 a (z_ci (X11_like a x1 x2 x3) fun y1 => z_ld n0 xs (i + 1) fun w1 => z_ld n0 xs (i + 2) fun w2 => z_ld n0 xs (i + 3) fun w3 => z_rc 12 b (z_ci (X12_like b w1 w2 w3) fun y2 => z_if (y1 = y2) (r (i + 6)) (z_ret (some (.int 0)))))
/-- swap -/
def lw_c26 (n0 : Nat) (xs : Nat → Int32) (r : Int32 → zM) (a b : Nat) (i : Int32) : zM := z_ld n0 xs (i + 1) fun x1 => z_ld n0 xs (i + 2) fun x2 => z_ld n0 xs (i + 3) fun x3 => z_rc 11 a (z_ci (X11_swap a x1 x2 x3) fun y1 => z_ld n0 xs (i + 1) fun w1 => z_ld n0 xs (i + 2) fun w2 => z_ld n0 xs (i + 3) fun w3 => z_rc 12 b (z_ci (X12_swap b w1 w2 w3) fun y2 => z_if (y1 = y2) (r (i + 6)) (z_ret (some (.int 0)))))
/-- undo -/
def lw_c27 (n0 : Nat) (xs : Nat → Int32) (r : Int32 → zM) (a b : Nat) (i : Int32) : zM := z_rc 11 a (z_ci (X11_undo a) fun y1 => z_rc 12 b (z_ci (X12_undo b) fun y2 => z_if (y1 = y2) (r (i + 6)) (z_ret (some (.int 0)))))
/-- seed -/
def lw_c28 (n0 : Nat) (xs : Nat → Int32) (r : Int32 → zM) (a b : Nat) (i : Int32) : zM := z_ld n0 xs (i + 1) fun x1 => z_rc 11 a (z_ci (X11_seed a x1) fun y1 => z_ld n0 xs (i + 1) fun w1 => z_rc 12 b (z_ci (X12_seed b w1) fun y2 => z_if (y1 = y2) (r (i + 6)) (z_ret (some (.int 0)))))
/-- ask -/
def lw_c29 (n0 : Nat) (xs : Nat → Int32) (r : Int32 → zM) (a b : Nat) (i : Int32) : zM := z_rc 11 a (z_cl (X11_ask a) fun y1 => z_rc 12 b (z_cl (X12_ask b) fun y2 => z_if (y1 = y2) (r (i + 6)) (z_ret (some (.int 0)))))
/-- image -/
def lw_c30 (n0 : Nat) (xs : Nat → Int32) (r : Int32 → zM) (a b : Nat) (i : Int32) : zM := z_rc 11 a (z_ci (X11_image a) fun y1 => z_rc 12 b (z_ci (X12_image b) fun y2 => z_if (y1 = y2) (r (i + 6)) (z_ret (some (.int 0)))))
/-- octet -/
def lw_c31 (n0 : Nat) (xs : Nat → Int32) (r : Int32 → zM) (a b : Nat) (i : Int32) : zM := z_ld n0 xs (i + 1) fun x1 => z_rc 11 a (z_ci (X11_octet a x1) fun y1 => z_ld n0 xs (i + 1) fun w1 => z_rc 12 b (z_ci (X12_octet b w1) fun y2 => z_if (y1 = y2) (r (i + 6)) (z_ret (some (.int 0)))))
/-- on -/
def lw_c32 (n0 : Nat) (xs : Nat → Int32) (r : Int32 → zM) (a b : Nat) (i : Int32) : zM := z_rc 11 a (z_ci (X11_on a) fun y1 => z_rc 12 b (z_ci (X12_on b) fun y2 => z_if (y1 = y2) (r (i + 6)) (z_ret (some (.int 0)))))
/-- status -/
def lw_c33 (n0 : Nat) (xs : Nat → Int32) (r : Int32 → zM) (a b : Nat) (i : Int32) : zM := z_ld n0 xs (i + 1) fun x1 => z_rc 11 a (z_ci (X11_status a x1) fun y1 => z_ld n0 xs (i + 1) fun w1 => z_rc 12 b (z_ci (X12_status b w1) fun y2 => z_if (y1 = y2) (r (i + 6)) (z_ret (some (.int 0)))))
def lw_S (n0 : Nat) (xs : Nat → Int32) (r : Int32 → zM) (a b : Nat) (i : Int32) (j : Nat) : zM := match j with
  | 0 => lw_c0 n0 xs r a b i
  | 1 => lw_c1 n0 xs r a b i
  | 2 => lw_c2 n0 xs r a b i
  | 3 => lw_c3 n0 xs r a b i
  | 4 => lw_c4 n0 xs r a b i
  | 5 => lw_c5 n0 xs r a b i
  | 6 => lw_c6 n0 xs r a b i
  | 7 => lw_c7 n0 xs r a b i
  | 8 => lw_c8 n0 xs r a b i
  | 9 => lw_c9 n0 xs r a b i
  | 10 => lw_c10 n0 xs r a b i
  | 11 => lw_c11 n0 xs r a b i
  | 12 => lw_c12 n0 xs r a b i
  | 13 => lw_c13 n0 xs r a b i
  | 14 => lw_c14 n0 xs r a b i
  | 15 => lw_c15 n0 xs r a b i
  | 16 => lw_c16 n0 xs r a b i
  | 17 => lw_c17 n0 xs r a b i
  | 18 => lw_c18 n0 xs r a b i
  | 19 => lw_c19 n0 xs r a b i
  | 20 => lw_c20 n0 xs r a b i
  | 21 => lw_c21 n0 xs r a b i
  | 22 => lw_c22 n0 xs r a b i
  | 23 => lw_c23 n0 xs r a b i
  | 24 => lw_c24 n0 xs r a b i
  | 25 => lw_c25 n0 xs r a b i
  | 26 => lw_c26 n0 xs r a b i
  | 27 => lw_c27 n0 xs r a b i
  | 28 => lw_c28 n0 xs r a b i
  | 29 => lw_c29 n0 xs r a b i
  | 30 => lw_c30 n0 xs r a b i
  | 31 => lw_c31 n0 xs r a b i
  | 32 => lw_c32 n0 xs r a b i
  | 33 => lw_c33 n0 xs r a b i
  | _ => zNo
/-- one turn of the law -/
def lw_B (n0 : Nat) (xs : Nat → Int32) (a b : Nat) (r : Int32 → zM) (i : Int32) : zM := z_if (Int32.ofNat n0 - 6 < i) (z_ret (some (.int 1))) (z_ld n0 xs i fun x0 => z_if ((x0 &&& 63).toInt < 0 ∨ 33 < (x0 &&& 63).toInt) (r (i + 6)) (lw_S n0 xs r a b i ((x0 &&& 63).toInt - 0).toNat))
/-- the law -/
def lw_M (n0 : Nat) (xs : Nat → Int32) : zM := z_new 11 20 fun a => z_cv (X11_init a) (z_new 12 116 fun b => z_cv (X12_init b) (z_fix (fun r i => lw_B n0 xs a b r i) zFU 0))
theorem wl_k7 : Cond.classLink iLw.1 7 "ClothWedding" ∈ tb := tb_of 170 (by decide +kernel) rfl
theorem wl_k10 : Cond.classLink iLw.1 10 "ClothWeddingModel" ∈ tb := tb_of 1382 (by decide +kernel) rfl
theorem wl_m9 : Cond.methodLink iLw.1 9 yX11_init ∈ tb := tb_of 172 (by decide +kernel) rfl
theorem wl_m12 : Cond.methodLink iLw.1 12 yX12_init ∈ tb := tb_of 1384 (by decide +kernel) rfl
theorem wl_i11 : Cond.instantiable "ClothWedding" 20 ∈ tb := tb_of 171 (by decide +kernel) rfl
theorem wl_n11 : Cond.initialized "ClothWedding" ∈ tb := tb_of 149 (by decide +kernel) rfl
theorem wl_i12 : Cond.instantiable "ClothWeddingModel" 116 ∈ tb := tb_of 1383 (by decide +kernel) rfl
theorem wl_n12 : Cond.initialized "ClothWeddingModel" ∈ tb := tb_of 162 (by decide +kernel) rfl
set_option maxHeartbeats 2000000 in
set_option maxRecDepth 20000 in
theorem lw_w0 (l : Launch) (e : Nat) (he : 80 ≤ e) (rc rs n0 : Nat) (xs : Nat → Int32) (a b : Nat) (i : Int32) (r : Int32 → zM) (hr : ∀ i : Int32, zCl n0 xs l (e + 1) rc rs iLw 18 [(3, .int i), (2, .ref b), (1, .ref a), (0, .ref (zB + 17))] [] (r i)) : zCl n0 xs l (e + 1) rc rs iLw 184 [(3, .int i), (2, .ref b), (1, .ref a), (0, .ref (zB + 17))] [] (lw_c0 n0 xs r a b i) := by
  unfold lw_c0
  refine zcl_p tk_0 0 5 (pc' := 189) (L' := [(3, .int i), (2, .ref b), (1, .ref a), (0, .ref (zB + 17))]) (S' := [.int (i + 1), .ref (zB + 17), .ref a]) rfl ?_
  refine zcl_sld (zdk (cc := code) (q := (189, .iaload, 1)) tk_0 5 rfl) (fun x1 => ?_)
  refine zcl_p tk_0 6 4 (pc' := 194) (L' := [(3, .int i), (2, .ref b), (1, .ref a), (0, .ref (zB + 17))]) (S' := [.int (i + 2), .ref (zB + 17), .int x1, .ref a]) rfl ?_
  refine zcl_sld (zdk (cc := code) (q := (194, .iaload, 1)) tk_0 10 rfl) (fun x2 => ?_)
  refine zcl_p tk_0 11 4 (pc' := 199) (L' := [(3, .int i), (2, .ref b), (1, .ref a), (0, .ref (zB + 17))]) (S' := [.int (i + 3), .ref (zB + 17), .int x2, .int x1, .ref a]) rfl ?_
  refine zcl_sld (zdk (cc := code) (q := (199, .iaload, 1)) tk_0 15 rfl) (fun x3 => ?_)
  refine zcl_p tk_0 16 4 (pc' := 204) (L' := [(3, .int i), (2, .ref b), (1, .ref a), (0, .ref (zB + 17))]) (S' := [.int (i + 4), .ref (zB + 17), .int x3, .int x2, .int x1, .ref a]) rfl ?_
  refine zcl_sld (zdk (cc := code) (q := (204, .iaload, 1)) tk_0 20 rfl) (fun x4 => ?_)
  refine zcl_p tk_0 21 4 (pc' := 209) (L' := [(3, .int i), (2, .ref b), (1, .ref a), (0, .ref (zB + 17))]) (S' := [.int (i + 5), .ref (zB + 17), .int x4, .int x3, .int x2, .int x1, .ref a]) rfl ?_
  refine zcl_sld (zdk (cc := code) (q := (209, .iaload, 1)) tk_0 25 rfl) (fun x5 => ?_)
  refine zcl_Vi (rc := rc) (rs := rs) (mc := 0) (ms := 0) (As := [.int x1, .int x2, .int x3, .int x4, .int x5]) (S := []) vmX11_feed (mtX11_feed l e (by omega) a x1 x2 x3 x4 x5) q_620 rfl rfl (Nat.le_of_ble_eq_true rfl) (zdk (cc := code) (q := (210, .invokevirtual 13, 3)) tk_0 26 rfl) (fun y1 => ?_)
  refine zcl_p tk_0 27 5 (pc' := 218) (L' := [(3, .int i), (2, .ref b), (1, .ref a), (0, .ref (zB + 17))]) (S' := [.int (i + 1), .ref (zB + 17), .ref b, .int y1]) rfl ?_
  refine zcl_sld (zdk (cc := code) (q := (218, .iaload, 1)) tk_0 32 rfl) (fun w1 => ?_)
  refine zcl_p tk_0 33 4 (pc' := 223) (L' := [(3, .int i), (2, .ref b), (1, .ref a), (0, .ref (zB + 17))]) (S' := [.int (i + 2), .ref (zB + 17), .int w1, .ref b, .int y1]) rfl ?_
  refine zcl_sld (zdk (cc := code) (q := (223, .iaload, 1)) tk_0 37 rfl) (fun w2 => ?_)
  refine zcl_p tk_0 38 4 (pc' := 228) (L' := [(3, .int i), (2, .ref b), (1, .ref a), (0, .ref (zB + 17))]) (S' := [.int (i + 3), .ref (zB + 17), .int w2, .int w1, .ref b, .int y1]) rfl ?_
  refine zcl_sld (zdk (cc := code) (q := (228, .iaload, 1)) tk_0 42 rfl) (fun w3 => ?_)
  refine zcl_p tk_0 43 4 (pc' := 233) (L' := [(3, .int i), (2, .ref b), (1, .ref a), (0, .ref (zB + 17))]) (S' := [.int (i + 4), .ref (zB + 17), .int w3, .int w2, .int w1, .ref b, .int y1]) rfl ?_
  refine zcl_sld (zdk (cc := code) (q := (233, .iaload, 1)) tk_0 47 rfl) (fun w4 => ?_)
  refine zcl_p tk_0 48 4 (pc' := 238) (L' := [(3, .int i), (2, .ref b), (1, .ref a), (0, .ref (zB + 17))]) (S' := [.int (i + 5), .ref (zB + 17), .int w4, .int w3, .int w2, .int w1, .ref b, .int y1]) rfl ?_
  refine zcl_sld (zdk (cc := code) (q := (238, .iaload, 1)) tk_0 52 rfl) (fun w5 => ?_)
  refine zcl_Vi (rc := rc) (rs := rs) (mc := 0) (ms := 0) (As := [.int w1, .int w2, .int w3, .int w4, .int w5]) (S := [.int y1]) vmX12_feed (mtX12_feed l e (by omega) b w1 w2 w3 w4 w5) q_1739 rfl rfl (Nat.le_of_ble_eq_true rfl) (zdk (cc := code) (q := (239, .invokevirtual 17, 3)) tk_0 53 rfl) (fun y2 => ?_)
  refine zcl_icmp_eq (tgt := 1107) (zdk (cc := code) (q := (242, .if_icmp .eq 865, 3)) tk_0 54 rfl) rfl ?_ ?_
  · exact zcl_p tk_e 0 2 (pc' := 18) (L' := [(3, .int (i + 6)), (2, .ref b), (1, .ref a), (0, .ref (zB + 17))]) (S' := []) rfl (hr (i + 6))
  · refine zcl_p tk_0 55 1 (pc' := 246) (L' := [(3, .int i), (2, .ref b), (1, .ref a), (0, .ref (zB + 17))]) (S' := [.int 0]) rfl ?_
    exact zcl_end rfl (zdk (cc := code) (q := (246, .ireturn, 1)) tk_0 56 rfl)
set_option maxHeartbeats 2000000 in
set_option maxRecDepth 20000 in
theorem lw_w1 (l : Launch) (e : Nat) (he : 80 ≤ e) (rc rs n0 : Nat) (xs : Nat → Int32) (a b : Nat) (i : Int32) (r : Int32 → zM) (hr : ∀ i : Int32, zCl n0 xs l (e + 1) rc rs iLw 18 [(3, .int i), (2, .ref b), (1, .ref a), (0, .ref (zB + 17))] [] (r i)) : zCl n0 xs l (e + 1) rc rs iLw 247 [(3, .int i), (2, .ref b), (1, .ref a), (0, .ref (zB + 17))] [] (lw_c1 n0 xs r a b i) := by
  unfold lw_c1
  refine zcl_p tk_1 0 5 (pc' := 252) (L' := [(3, .int i), (2, .ref b), (1, .ref a), (0, .ref (zB + 17))]) (S' := [.int (i + 1), .ref (zB + 17), .ref a]) rfl ?_
  refine zcl_sld (zdk (cc := code) (q := (252, .iaload, 1)) tk_1 5 rfl) (fun x1 => ?_)
  refine zcl_Vi (rc := rc) (rs := rs) (mc := 0) (ms := 0) (As := [.int x1]) (S := []) vmX11_end (mtX11_end l e (by omega) a x1) q_632 rfl rfl (Nat.le_of_ble_eq_true rfl) (zdk (cc := code) (q := (253, .invokevirtual 18, 3)) tk_1 6 rfl) (fun y1 => ?_)
  refine zcl_p tk_1 7 5 (pc' := 261) (L' := [(3, .int i), (2, .ref b), (1, .ref a), (0, .ref (zB + 17))]) (S' := [.int (i + 1), .ref (zB + 17), .ref b, .int y1]) rfl ?_
  refine zcl_sld (zdk (cc := code) (q := (261, .iaload, 1)) tk_1 12 rfl) (fun w1 => ?_)
  refine zcl_Vi (rc := rc) (rs := rs) (mc := 0) (ms := 0) (As := [.int w1]) (S := [.int y1]) vmX12_end (mtX12_end l e (by omega) b w1) q_1743 rfl rfl (Nat.le_of_ble_eq_true rfl) (zdk (cc := code) (q := (262, .invokevirtual 22, 3)) tk_1 13 rfl) (fun y2 => ?_)
  refine zcl_icmp_eq (tgt := 1107) (zdk (cc := code) (q := (265, .if_icmp .eq 842, 3)) tk_1 14 rfl) rfl ?_ ?_
  · exact zcl_p tk_e 0 2 (pc' := 18) (L' := [(3, .int (i + 6)), (2, .ref b), (1, .ref a), (0, .ref (zB + 17))]) (S' := []) rfl (hr (i + 6))
  · refine zcl_p tk_1 15 1 (pc' := 269) (L' := [(3, .int i), (2, .ref b), (1, .ref a), (0, .ref (zB + 17))]) (S' := [.int 0]) rfl ?_
    exact zcl_end rfl (zdk (cc := code) (q := (269, .ireturn, 1)) tk_1 16 rfl)
set_option maxHeartbeats 2000000 in
set_option maxRecDepth 20000 in
theorem lw_w2 (l : Launch) (e : Nat) (he : 80 ≤ e) (rc rs n0 : Nat) (xs : Nat → Int32) (a b : Nat) (i : Int32) (r : Int32 → zM) (hr : ∀ i : Int32, zCl n0 xs l (e + 1) rc rs iLw 18 [(3, .int i), (2, .ref b), (1, .ref a), (0, .ref (zB + 17))] [] (r i)) : zCl n0 xs l (e + 1) rc rs iLw 270 [(3, .int i), (2, .ref b), (1, .ref a), (0, .ref (zB + 17))] [] (lw_c2 n0 xs r a b i) := by
  unfold lw_c2
  refine zcl_p tk_2 0 1 (pc' := 271) (L' := [(3, .int i), (2, .ref b), (1, .ref a), (0, .ref (zB + 17))]) (S' := [.ref a]) rfl ?_
  refine zcl_Vi (rc := rc) (rs := rs) (mc := 0) (ms := 0) (As := []) (S := []) vmX11_church (mtX11_church l e (by omega) a) q_636 rfl rfl (Nat.le_of_ble_eq_true rfl) (zdk (cc := code) (q := (271, .invokevirtual 23, 3)) tk_2 1 rfl) (fun y1 => ?_)
  refine zcl_p tk_2 2 1 (pc' := 275) (L' := [(3, .int i), (2, .ref b), (1, .ref a), (0, .ref (zB + 17))]) (S' := [.ref b, .int y1]) rfl ?_
  refine zcl_Vi (rc := rc) (rs := rs) (mc := 0) (ms := 0) (As := []) (S := [.int y1]) vmX12_church (mtX12_church l e (by omega) b) q_1747 rfl rfl (Nat.le_of_ble_eq_true rfl) (zdk (cc := code) (q := (275, .invokevirtual 27, 3)) tk_2 3 rfl) (fun y2 => ?_)
  refine zcl_icmp_eq (tgt := 1107) (zdk (cc := code) (q := (278, .if_icmp .eq 829, 3)) tk_2 4 rfl) rfl ?_ ?_
  · exact zcl_p tk_e 0 2 (pc' := 18) (L' := [(3, .int (i + 6)), (2, .ref b), (1, .ref a), (0, .ref (zB + 17))]) (S' := []) rfl (hr (i + 6))
  · refine zcl_p tk_2 5 1 (pc' := 282) (L' := [(3, .int i), (2, .ref b), (1, .ref a), (0, .ref (zB + 17))]) (S' := [.int 0]) rfl ?_
    exact zcl_end rfl (zdk (cc := code) (q := (282, .ireturn, 1)) tk_2 6 rfl)
set_option maxHeartbeats 2000000 in
set_option maxRecDepth 20000 in
theorem lw_w3 (l : Launch) (e : Nat) (he : 80 ≤ e) (rc rs n0 : Nat) (xs : Nat → Int32) (a b : Nat) (i : Int32) (r : Int32 → zM) (hr : ∀ i : Int32, zCl n0 xs l (e + 1) rc rs iLw 18 [(3, .int i), (2, .ref b), (1, .ref a), (0, .ref (zB + 17))] [] (r i)) : zCl n0 xs l (e + 1) rc rs iLw 283 [(3, .int i), (2, .ref b), (1, .ref a), (0, .ref (zB + 17))] [] (lw_c3 n0 xs r a b i) := by
  unfold lw_c3
  refine zcl_p tk_3 0 5 (pc' := 288) (L' := [(3, .int i), (2, .ref b), (1, .ref a), (0, .ref (zB + 17))]) (S' := [.int (i + 1), .ref (zB + 17), .ref a]) rfl ?_
  refine zcl_sld (zdk (cc := code) (q := (288, .iaload, 1)) tk_3 5 rfl) (fun x1 => ?_)
  refine zcl_Vi (rc := rc) (rs := rs) (mc := 0) (ms := 0) (As := [.int x1]) (S := []) vmX11_fault (mtX11_fault l e (by omega) a x1) q_909 rfl rfl (Nat.le_of_ble_eq_true rfl) (zdk (cc := code) (q := (289, .invokevirtual 28, 3)) tk_3 6 rfl) (fun y1 => ?_)
  refine zcl_p tk_3 7 5 (pc' := 297) (L' := [(3, .int i), (2, .ref b), (1, .ref a), (0, .ref (zB + 17))]) (S' := [.int (i + 1), .ref (zB + 17), .ref b, .int y1]) rfl ?_
  refine zcl_sld (zdk (cc := code) (q := (297, .iaload, 1)) tk_3 12 rfl) (fun w1 => ?_)
  refine zcl_Vi (rc := rc) (rs := rs) (mc := 0) (ms := 0) (As := [.int w1]) (S := [.int y1]) vmX12_fault (mtX12_fault l e (by omega) b w1) q_1916 rfl rfl (Nat.le_of_ble_eq_true rfl) (zdk (cc := code) (q := (298, .invokevirtual 32, 3)) tk_3 13 rfl) (fun y2 => ?_)
  refine zcl_icmp_eq (tgt := 1107) (zdk (cc := code) (q := (301, .if_icmp .eq 806, 3)) tk_3 14 rfl) rfl ?_ ?_
  · exact zcl_p tk_e 0 2 (pc' := 18) (L' := [(3, .int (i + 6)), (2, .ref b), (1, .ref a), (0, .ref (zB + 17))]) (S' := []) rfl (hr (i + 6))
  · refine zcl_p tk_3 15 1 (pc' := 305) (L' := [(3, .int i), (2, .ref b), (1, .ref a), (0, .ref (zB + 17))]) (S' := [.int 0]) rfl ?_
    exact zcl_end rfl (zdk (cc := code) (q := (305, .ireturn, 1)) tk_3 16 rfl)
set_option maxHeartbeats 2000000 in
set_option maxRecDepth 20000 in
theorem lw_w4 (l : Launch) (e : Nat) (he : 80 ≤ e) (rc rs n0 : Nat) (xs : Nat → Int32) (a b : Nat) (i : Int32) (r : Int32 → zM) (hr : ∀ i : Int32, zCl n0 xs l (e + 1) rc rs iLw 18 [(3, .int i), (2, .ref b), (1, .ref a), (0, .ref (zB + 17))] [] (r i)) : zCl n0 xs l (e + 1) rc rs iLw 306 [(3, .int i), (2, .ref b), (1, .ref a), (0, .ref (zB + 17))] [] (lw_c4 n0 xs r a b i) := by
  unfold lw_c4
  refine zcl_p tk_4 0 5 (pc' := 311) (L' := [(3, .int i), (2, .ref b), (1, .ref a), (0, .ref (zB + 17))]) (S' := [.int (i + 1), .ref (zB + 17), .ref a]) rfl ?_
  refine zcl_sld (zdk (cc := code) (q := (311, .iaload, 1)) tk_4 5 rfl) (fun x1 => ?_)
  refine zcl_Vi (rc := rc) (rs := rs) (mc := 0) (ms := 0) (As := [.int x1]) (S := []) vmX11_has (mtX11_has l e (by omega) a x1) q_913 rfl rfl (Nat.le_of_ble_eq_true rfl) (zdk (cc := code) (q := (312, .invokevirtual 33, 3)) tk_4 6 rfl) (fun y1 => ?_)
  refine zcl_p tk_4 7 5 (pc' := 320) (L' := [(3, .int i), (2, .ref b), (1, .ref a), (0, .ref (zB + 17))]) (S' := [.int (i + 1), .ref (zB + 17), .ref b, .int y1]) rfl ?_
  refine zcl_sld (zdk (cc := code) (q := (320, .iaload, 1)) tk_4 12 rfl) (fun w1 => ?_)
  refine zcl_Vi (rc := rc) (rs := rs) (mc := 0) (ms := 0) (As := [.int w1]) (S := [.int y1]) vmX12_has (mtX12_has l e (by omega) b w1) q_1920 rfl rfl (Nat.le_of_ble_eq_true rfl) (zdk (cc := code) (q := (321, .invokevirtual 36, 3)) tk_4 13 rfl) (fun y2 => ?_)
  refine zcl_icmp_eq (tgt := 1107) (zdk (cc := code) (q := (324, .if_icmp .eq 783, 3)) tk_4 14 rfl) rfl ?_ ?_
  · exact zcl_p tk_e 0 2 (pc' := 18) (L' := [(3, .int (i + 6)), (2, .ref b), (1, .ref a), (0, .ref (zB + 17))]) (S' := []) rfl (hr (i + 6))
  · refine zcl_p tk_4 15 1 (pc' := 328) (L' := [(3, .int i), (2, .ref b), (1, .ref a), (0, .ref (zB + 17))]) (S' := [.int 0]) rfl ?_
    exact zcl_end rfl (zdk (cc := code) (q := (328, .ireturn, 1)) tk_4 16 rfl)
set_option maxHeartbeats 2000000 in
set_option maxRecDepth 20000 in
theorem lw_w5 (l : Launch) (e : Nat) (he : 80 ≤ e) (rc rs n0 : Nat) (xs : Nat → Int32) (a b : Nat) (i : Int32) (r : Int32 → zM) (hr : ∀ i : Int32, zCl n0 xs l (e + 1) rc rs iLw 18 [(3, .int i), (2, .ref b), (1, .ref a), (0, .ref (zB + 17))] [] (r i)) : zCl n0 xs l (e + 1) rc rs iLw 329 [(3, .int i), (2, .ref b), (1, .ref a), (0, .ref (zB + 17))] [] (lw_c5 n0 xs r a b i) := by
  unfold lw_c5
  refine zcl_p tk_5 0 5 (pc' := 334) (L' := [(3, .int i), (2, .ref b), (1, .ref a), (0, .ref (zB + 17))]) (S' := [.int (i + 1), .ref (zB + 17), .ref a]) rfl ?_
  refine zcl_sld (zdk (cc := code) (q := (334, .iaload, 1)) tk_5 5 rfl) (fun x1 => ?_)
  refine zcl_p tk_5 6 4 (pc' := 339) (L' := [(3, .int i), (2, .ref b), (1, .ref a), (0, .ref (zB + 17))]) (S' := [.int (i + 2), .ref (zB + 17), .int x1, .ref a]) rfl ?_
  refine zcl_sld (zdk (cc := code) (q := (339, .iaload, 1)) tk_5 10 rfl) (fun x2 => ?_)
  refine zcl_Vi (rc := rc) (rs := rs) (mc := 0) (ms := 0) (As := [.int x1, .int x2]) (S := []) vmX11_letter (mtX11_letter l e (by omega) a x1 x2) q_928 rfl rfl (Nat.le_of_ble_eq_true rfl) (zdk (cc := code) (q := (340, .invokevirtual 37, 3)) tk_5 11 rfl) (fun y1 => ?_)
  refine zcl_p tk_5 12 5 (pc' := 348) (L' := [(3, .int i), (2, .ref b), (1, .ref a), (0, .ref (zB + 17))]) (S' := [.int (i + 1), .ref (zB + 17), .ref b, .int y1]) rfl ?_
  refine zcl_sld (zdk (cc := code) (q := (348, .iaload, 1)) tk_5 17 rfl) (fun w1 => ?_)
  refine zcl_p tk_5 18 4 (pc' := 353) (L' := [(3, .int i), (2, .ref b), (1, .ref a), (0, .ref (zB + 17))]) (S' := [.int (i + 2), .ref (zB + 17), .int w1, .ref b, .int y1]) rfl ?_
  refine zcl_sld (zdk (cc := code) (q := (353, .iaload, 1)) tk_5 22 rfl) (fun w2 => ?_)
  refine zcl_Vi (rc := rc) (rs := rs) (mc := 0) (ms := 0) (As := [.int w1, .int w2]) (S := [.int y1]) vmX12_letter (mtX12_letter l e (by omega) b w1 w2) q_1932 rfl rfl (Nat.le_of_ble_eq_true rfl) (zdk (cc := code) (q := (354, .invokevirtual 41, 3)) tk_5 23 rfl) (fun y2 => ?_)
  refine zcl_icmp_eq (tgt := 1107) (zdk (cc := code) (q := (357, .if_icmp .eq 750, 3)) tk_5 24 rfl) rfl ?_ ?_
  · exact zcl_p tk_e 0 2 (pc' := 18) (L' := [(3, .int (i + 6)), (2, .ref b), (1, .ref a), (0, .ref (zB + 17))]) (S' := []) rfl (hr (i + 6))
  · refine zcl_p tk_5 25 1 (pc' := 361) (L' := [(3, .int i), (2, .ref b), (1, .ref a), (0, .ref (zB + 17))]) (S' := [.int 0]) rfl ?_
    exact zcl_end rfl (zdk (cc := code) (q := (361, .ireturn, 1)) tk_5 26 rfl)
set_option maxHeartbeats 2000000 in
set_option maxRecDepth 20000 in
theorem lw_w6 (l : Launch) (e : Nat) (he : 80 ≤ e) (rc rs n0 : Nat) (xs : Nat → Int32) (a b : Nat) (i : Int32) (r : Int32 → zM) (hr : ∀ i : Int32, zCl n0 xs l (e + 1) rc rs iLw 18 [(3, .int i), (2, .ref b), (1, .ref a), (0, .ref (zB + 17))] [] (r i)) : zCl n0 xs l (e + 1) rc rs iLw 362 [(3, .int i), (2, .ref b), (1, .ref a), (0, .ref (zB + 17))] [] (lw_c6 n0 xs r a b i) := by
  unfold lw_c6
  refine zcl_p tk_6 0 5 (pc' := 367) (L' := [(3, .int i), (2, .ref b), (1, .ref a), (0, .ref (zB + 17))]) (S' := [.int (i + 1), .ref (zB + 17), .ref a]) rfl ?_
  refine zcl_sld (zdk (cc := code) (q := (367, .iaload, 1)) tk_6 5 rfl) (fun x1 => ?_)
  refine zcl_p tk_6 6 4 (pc' := 372) (L' := [(3, .int i), (2, .ref b), (1, .ref a), (0, .ref (zB + 17))]) (S' := [.int (i + 2), .ref (zB + 17), .int x1, .ref a]) rfl ?_
  refine zcl_sld (zdk (cc := code) (q := (372, .iaload, 1)) tk_6 10 rfl) (fun x2 => ?_)
  refine zcl_Vi (rc := rc) (rs := rs) (mc := 0) (ms := 0) (As := [.int x1, .int x2]) (S := []) vmX11_person (mtX11_person l e (by omega) a x1 x2) q_940 rfl rfl (Nat.le_of_ble_eq_true rfl) (zdk (cc := code) (q := (373, .invokevirtual 42, 3)) tk_6 11 rfl) (fun y1 => ?_)
  refine zcl_p tk_6 12 5 (pc' := 381) (L' := [(3, .int i), (2, .ref b), (1, .ref a), (0, .ref (zB + 17))]) (S' := [.int (i + 1), .ref (zB + 17), .ref b, .int y1]) rfl ?_
  refine zcl_sld (zdk (cc := code) (q := (381, .iaload, 1)) tk_6 17 rfl) (fun w1 => ?_)
  refine zcl_p tk_6 18 4 (pc' := 386) (L' := [(3, .int i), (2, .ref b), (1, .ref a), (0, .ref (zB + 17))]) (S' := [.int (i + 2), .ref (zB + 17), .int w1, .ref b, .int y1]) rfl ?_
  refine zcl_sld (zdk (cc := code) (q := (386, .iaload, 1)) tk_6 22 rfl) (fun w2 => ?_)
  refine zcl_Vi (rc := rc) (rs := rs) (mc := 0) (ms := 0) (As := [.int w1, .int w2]) (S := [.int y1]) vmX12_person (mtX12_person l e (by omega) b w1 w2) q_1952 rfl rfl (Nat.le_of_ble_eq_true rfl) (zdk (cc := code) (q := (387, .invokevirtual 45, 3)) tk_6 23 rfl) (fun y2 => ?_)
  refine zcl_icmp_eq (tgt := 1107) (zdk (cc := code) (q := (390, .if_icmp .eq 717, 3)) tk_6 24 rfl) rfl ?_ ?_
  · exact zcl_p tk_e 0 2 (pc' := 18) (L' := [(3, .int (i + 6)), (2, .ref b), (1, .ref a), (0, .ref (zB + 17))]) (S' := []) rfl (hr (i + 6))
  · refine zcl_p tk_6 25 1 (pc' := 394) (L' := [(3, .int i), (2, .ref b), (1, .ref a), (0, .ref (zB + 17))]) (S' := [.int 0]) rfl ?_
    exact zcl_end rfl (zdk (cc := code) (q := (394, .ireturn, 1)) tk_6 26 rfl)
set_option maxHeartbeats 2000000 in
set_option maxRecDepth 20000 in
theorem lw_w7 (l : Launch) (e : Nat) (he : 80 ≤ e) (rc rs n0 : Nat) (xs : Nat → Int32) (a b : Nat) (i : Int32) (r : Int32 → zM) (hr : ∀ i : Int32, zCl n0 xs l (e + 1) rc rs iLw 18 [(3, .int i), (2, .ref b), (1, .ref a), (0, .ref (zB + 17))] [] (r i)) : zCl n0 xs l (e + 1) rc rs iLw 395 [(3, .int i), (2, .ref b), (1, .ref a), (0, .ref (zB + 17))] [] (lw_c7 n0 xs r a b i) := by
  unfold lw_c7
  refine zcl_p tk_7 0 5 (pc' := 400) (L' := [(3, .int i), (2, .ref b), (1, .ref a), (0, .ref (zB + 17))]) (S' := [.int (i + 1), .ref (zB + 17), .ref a]) rfl ?_
  refine zcl_sld (zdk (cc := code) (q := (400, .iaload, 1)) tk_7 5 rfl) (fun x1 => ?_)
  refine zcl_p tk_7 6 4 (pc' := 405) (L' := [(3, .int i), (2, .ref b), (1, .ref a), (0, .ref (zB + 17))]) (S' := [.int (i + 2), .ref (zB + 17), .int x1, .ref a]) rfl ?_
  refine zcl_sld (zdk (cc := code) (q := (405, .iaload, 1)) tk_7 10 rfl) (fun x2 => ?_)
  refine zcl_p tk_7 11 4 (pc' := 410) (L' := [(3, .int i), (2, .ref b), (1, .ref a), (0, .ref (zB + 17))]) (S' := [.int (i + 3), .ref (zB + 17), .int x2, .int x1, .ref a]) rfl ?_
  refine zcl_sld (zdk (cc := code) (q := (410, .iaload, 1)) tk_7 15 rfl) (fun x3 => ?_)
  refine zcl_Vi (rc := rc) (rs := rs) (mc := 0) (ms := 0) (As := [.int x1, .int x2, .int x3]) (S := []) vmX11_pair (mtX11_pair l e (by omega) a x1 x2 x3) q_966 rfl rfl (Nat.le_of_ble_eq_true rfl) (zdk (cc := code) (q := (411, .invokevirtual 46, 3)) tk_7 16 rfl) (fun y1 => ?_)
  refine zcl_p tk_7 17 5 (pc' := 419) (L' := [(3, .int i), (2, .ref b), (1, .ref a), (0, .ref (zB + 17))]) (S' := [.int (i + 1), .ref (zB + 17), .ref b, .int y1]) rfl ?_
  refine zcl_sld (zdk (cc := code) (q := (419, .iaload, 1)) tk_7 22 rfl) (fun w1 => ?_)
  refine zcl_p tk_7 23 4 (pc' := 424) (L' := [(3, .int i), (2, .ref b), (1, .ref a), (0, .ref (zB + 17))]) (S' := [.int (i + 2), .ref (zB + 17), .int w1, .ref b, .int y1]) rfl ?_
  refine zcl_sld (zdk (cc := code) (q := (424, .iaload, 1)) tk_7 27 rfl) (fun w2 => ?_)
  refine zcl_p tk_7 28 4 (pc' := 429) (L' := [(3, .int i), (2, .ref b), (1, .ref a), (0, .ref (zB + 17))]) (S' := [.int (i + 3), .ref (zB + 17), .int w2, .int w1, .ref b, .int y1]) rfl ?_
  refine zcl_sld (zdk (cc := code) (q := (429, .iaload, 1)) tk_7 32 rfl) (fun w3 => ?_)
  refine zcl_Vi (rc := rc) (rs := rs) (mc := 0) (ms := 0) (As := [.int w1, .int w2, .int w3]) (S := [.int y1]) vmX12_pair (mtX12_pair l e (by omega) b w1 w2 w3) q_1988 rfl rfl (Nat.le_of_ble_eq_true rfl) (zdk (cc := code) (q := (430, .invokevirtual 50, 3)) tk_7 33 rfl) (fun y2 => ?_)
  refine zcl_icmp_eq (tgt := 1107) (zdk (cc := code) (q := (433, .if_icmp .eq 674, 3)) tk_7 34 rfl) rfl ?_ ?_
  · exact zcl_p tk_e 0 2 (pc' := 18) (L' := [(3, .int (i + 6)), (2, .ref b), (1, .ref a), (0, .ref (zB + 17))]) (S' := []) rfl (hr (i + 6))
  · refine zcl_p tk_7 35 1 (pc' := 437) (L' := [(3, .int i), (2, .ref b), (1, .ref a), (0, .ref (zB + 17))]) (S' := [.int 0]) rfl ?_
    exact zcl_end rfl (zdk (cc := code) (q := (437, .ireturn, 1)) tk_7 36 rfl)
set_option maxHeartbeats 2000000 in
set_option maxRecDepth 20000 in
theorem lw_w8 (l : Launch) (e : Nat) (he : 80 ≤ e) (rc rs n0 : Nat) (xs : Nat → Int32) (a b : Nat) (i : Int32) (r : Int32 → zM) (hr : ∀ i : Int32, zCl n0 xs l (e + 1) rc rs iLw 18 [(3, .int i), (2, .ref b), (1, .ref a), (0, .ref (zB + 17))] [] (r i)) : zCl n0 xs l (e + 1) rc rs iLw 438 [(3, .int i), (2, .ref b), (1, .ref a), (0, .ref (zB + 17))] [] (lw_c8 n0 xs r a b i) := by
  unfold lw_c8
  refine zcl_p tk_8 0 5 (pc' := 443) (L' := [(3, .int i), (2, .ref b), (1, .ref a), (0, .ref (zB + 17))]) (S' := [.int (i + 1), .ref (zB + 17), .ref a]) rfl ?_
  refine zcl_sld (zdk (cc := code) (q := (443, .iaload, 1)) tk_8 5 rfl) (fun x1 => ?_)
  refine zcl_p tk_8 6 4 (pc' := 448) (L' := [(3, .int i), (2, .ref b), (1, .ref a), (0, .ref (zB + 17))]) (S' := [.int (i + 2), .ref (zB + 17), .int x1, .ref a]) rfl ?_
  refine zcl_sld (zdk (cc := code) (q := (448, .iaload, 1)) tk_8 10 rfl) (fun x2 => ?_)
  refine zcl_Vi (rc := rc) (rs := rs) (mc := 0) (ms := 0) (As := [.int x1, .int x2]) (S := []) vmX11_kept (mtX11_kept l e (by omega) a x1 x2) q_1017 rfl rfl (Nat.le_of_ble_eq_true rfl) (zdk (cc := code) (q := (449, .invokevirtual 51, 3)) tk_8 11 rfl) (fun y1 => ?_)
  refine zcl_p tk_8 12 5 (pc' := 457) (L' := [(3, .int i), (2, .ref b), (1, .ref a), (0, .ref (zB + 17))]) (S' := [.int (i + 1), .ref (zB + 17), .ref b, .int y1]) rfl ?_
  refine zcl_sld (zdk (cc := code) (q := (457, .iaload, 1)) tk_8 17 rfl) (fun w1 => ?_)
  refine zcl_p tk_8 18 4 (pc' := 462) (L' := [(3, .int i), (2, .ref b), (1, .ref a), (0, .ref (zB + 17))]) (S' := [.int (i + 2), .ref (zB + 17), .int w1, .ref b, .int y1]) rfl ?_
  refine zcl_sld (zdk (cc := code) (q := (462, .iaload, 1)) tk_8 22 rfl) (fun w2 => ?_)
  refine zcl_Vi (rc := rc) (rs := rs) (mc := 0) (ms := 0) (As := [.int w1, .int w2]) (S := [.int y1]) vmX12_kept (mtX12_kept l e (by omega) b w1 w2) q_2063 rfl rfl (Nat.le_of_ble_eq_true rfl) (zdk (cc := code) (q := (463, .invokevirtual 54, 3)) tk_8 23 rfl) (fun y2 => ?_)
  refine zcl_icmp_eq (tgt := 1107) (zdk (cc := code) (q := (466, .if_icmp .eq 641, 3)) tk_8 24 rfl) rfl ?_ ?_
  · exact zcl_p tk_e 0 2 (pc' := 18) (L' := [(3, .int (i + 6)), (2, .ref b), (1, .ref a), (0, .ref (zB + 17))]) (S' := []) rfl (hr (i + 6))
  · refine zcl_p tk_8 25 1 (pc' := 470) (L' := [(3, .int i), (2, .ref b), (1, .ref a), (0, .ref (zB + 17))]) (S' := [.int 0]) rfl ?_
    exact zcl_end rfl (zdk (cc := code) (q := (470, .ireturn, 1)) tk_8 26 rfl)
set_option maxHeartbeats 2000000 in
set_option maxRecDepth 20000 in
theorem lw_w9 (l : Launch) (e : Nat) (he : 80 ≤ e) (rc rs n0 : Nat) (xs : Nat → Int32) (a b : Nat) (i : Int32) (r : Int32 → zM) (hr : ∀ i : Int32, zCl n0 xs l (e + 1) rc rs iLw 18 [(3, .int i), (2, .ref b), (1, .ref a), (0, .ref (zB + 17))] [] (r i)) : zCl n0 xs l (e + 1) rc rs iLw 471 [(3, .int i), (2, .ref b), (1, .ref a), (0, .ref (zB + 17))] [] (lw_c9 n0 xs r a b i) := by
  unfold lw_c9
  refine zcl_p tk_9 0 5 (pc' := 476) (L' := [(3, .int i), (2, .ref b), (1, .ref a), (0, .ref (zB + 17))]) (S' := [.int (i + 1), .ref (zB + 17), .ref a]) rfl ?_
  refine zcl_sld (zdk (cc := code) (q := (476, .iaload, 1)) tk_9 5 rfl) (fun x1 => ?_)
  refine zcl_p tk_9 6 4 (pc' := 481) (L' := [(3, .int i), (2, .ref b), (1, .ref a), (0, .ref (zB + 17))]) (S' := [.int (i + 2), .ref (zB + 17), .int x1, .ref a]) rfl ?_
  refine zcl_sld (zdk (cc := code) (q := (481, .iaload, 1)) tk_9 10 rfl) (fun x2 => ?_)
  refine zcl_Vi (rc := rc) (rs := rs) (mc := 0) (ms := 0) (As := [.int x1, .int x2]) (S := []) vmX11_later (mtX11_later l e (by omega) a x1 x2) q_1026 rfl rfl (Nat.le_of_ble_eq_true rfl) (zdk (cc := code) (q := (482, .invokevirtual 55, 3)) tk_9 11 rfl) (fun y1 => ?_)
  refine zcl_p tk_9 12 5 (pc' := 490) (L' := [(3, .int i), (2, .ref b), (1, .ref a), (0, .ref (zB + 17))]) (S' := [.int (i + 1), .ref (zB + 17), .ref b, .int y1]) rfl ?_
  refine zcl_sld (zdk (cc := code) (q := (490, .iaload, 1)) tk_9 17 rfl) (fun w1 => ?_)
  refine zcl_p tk_9 18 4 (pc' := 495) (L' := [(3, .int i), (2, .ref b), (1, .ref a), (0, .ref (zB + 17))]) (S' := [.int (i + 2), .ref (zB + 17), .int w1, .ref b, .int y1]) rfl ?_
  refine zcl_sld (zdk (cc := code) (q := (495, .iaload, 1)) tk_9 22 rfl) (fun w2 => ?_)
  refine zcl_Vi (rc := rc) (rs := rs) (mc := 0) (ms := 0) (As := [.int w1, .int w2]) (S := [.int y1]) vmX12_later (mtX12_later l e (by omega) b w1 w2) q_2068 rfl rfl (Nat.le_of_ble_eq_true rfl) (zdk (cc := code) (q := (496, .invokevirtual 58, 3)) tk_9 23 rfl) (fun y2 => ?_)
  refine zcl_icmp_eq (tgt := 1107) (zdk (cc := code) (q := (499, .if_icmp .eq 608, 3)) tk_9 24 rfl) rfl ?_ ?_
  · exact zcl_p tk_e 0 2 (pc' := 18) (L' := [(3, .int (i + 6)), (2, .ref b), (1, .ref a), (0, .ref (zB + 17))]) (S' := []) rfl (hr (i + 6))
  · refine zcl_p tk_9 25 1 (pc' := 503) (L' := [(3, .int i), (2, .ref b), (1, .ref a), (0, .ref (zB + 17))]) (S' := [.int 0]) rfl ?_
    exact zcl_end rfl (zdk (cc := code) (q := (503, .ireturn, 1)) tk_9 26 rfl)
set_option maxHeartbeats 2000000 in
set_option maxRecDepth 20000 in
theorem lw_w10 (l : Launch) (e : Nat) (he : 80 ≤ e) (rc rs n0 : Nat) (xs : Nat → Int32) (a b : Nat) (i : Int32) (r : Int32 → zM) (hr : ∀ i : Int32, zCl n0 xs l (e + 1) rc rs iLw 18 [(3, .int i), (2, .ref b), (1, .ref a), (0, .ref (zB + 17))] [] (r i)) : zCl n0 xs l (e + 1) rc rs iLw 504 [(3, .int i), (2, .ref b), (1, .ref a), (0, .ref (zB + 17))] [] (lw_c10 n0 xs r a b i) := by
  unfold lw_c10
  refine zcl_p tk_10 0 5 (pc' := 509) (L' := [(3, .int i), (2, .ref b), (1, .ref a), (0, .ref (zB + 17))]) (S' := [.int (i + 1), .ref (zB + 17), .ref a]) rfl ?_
  refine zcl_sld (zdk (cc := code) (q := (509, .iaload, 1)) tk_10 5 rfl) (fun x1 => ?_)
  refine zcl_Vi (rc := rc) (rs := rs) (mc := 0) (ms := 0) (As := [.int x1]) (S := []) vmX11_when (mtX11_when l e (by omega) a x1) q_1068 rfl rfl (Nat.le_of_ble_eq_true rfl) (zdk (cc := code) (q := (510, .invokevirtual 59, 3)) tk_10 6 rfl) (fun y1 => ?_)
  refine zcl_p tk_10 7 5 (pc' := 518) (L' := [(3, .int i), (2, .ref b), (1, .ref a), (0, .ref (zB + 17))]) (S' := [.int (i + 1), .ref (zB + 17), .ref b, .int y1]) rfl ?_
  refine zcl_sld (zdk (cc := code) (q := (518, .iaload, 1)) tk_10 12 rfl) (fun w1 => ?_)
  refine zcl_Vi (rc := rc) (rs := rs) (mc := 0) (ms := 0) (As := [.int w1]) (S := [.int y1]) vmX12_when (mtX12_when l e (by omega) b w1) q_2108 rfl rfl (Nat.le_of_ble_eq_true rfl) (zdk (cc := code) (q := (519, .invokevirtual 62, 3)) tk_10 13 rfl) (fun y2 => ?_)
  refine zcl_icmp_eq (tgt := 1107) (zdk (cc := code) (q := (522, .if_icmp .eq 585, 3)) tk_10 14 rfl) rfl ?_ ?_
  · exact zcl_p tk_e 0 2 (pc' := 18) (L' := [(3, .int (i + 6)), (2, .ref b), (1, .ref a), (0, .ref (zB + 17))]) (S' := []) rfl (hr (i + 6))
  · refine zcl_p tk_10 15 1 (pc' := 526) (L' := [(3, .int i), (2, .ref b), (1, .ref a), (0, .ref (zB + 17))]) (S' := [.int 0]) rfl ?_
    exact zcl_end rfl (zdk (cc := code) (q := (526, .ireturn, 1)) tk_10 16 rfl)
set_option maxHeartbeats 2000000 in
set_option maxRecDepth 20000 in
theorem lw_w11 (l : Launch) (e : Nat) (he : 80 ≤ e) (rc rs n0 : Nat) (xs : Nat → Int32) (a b : Nat) (i : Int32) (r : Int32 → zM) (hr : ∀ i : Int32, zCl n0 xs l (e + 1) rc rs iLw 18 [(3, .int i), (2, .ref b), (1, .ref a), (0, .ref (zB + 17))] [] (r i)) : zCl n0 xs l (e + 1) rc rs iLw 527 [(3, .int i), (2, .ref b), (1, .ref a), (0, .ref (zB + 17))] [] (lw_c11 n0 xs r a b i) := by
  unfold lw_c11
  refine zcl_p tk_11 0 5 (pc' := 532) (L' := [(3, .int i), (2, .ref b), (1, .ref a), (0, .ref (zB + 17))]) (S' := [.int (i + 1), .ref (zB + 17), .ref a]) rfl ?_
  refine zcl_sld (zdk (cc := code) (q := (532, .iaload, 1)) tk_11 5 rfl) (fun x1 => ?_)
  refine zcl_Vi (rc := rc) (rs := rs) (mc := 0) (ms := 0) (As := [.int x1]) (S := []) vmX11_pairs (mtX11_pairs l e (by omega) a x1) q_1077 rfl rfl (Nat.le_of_ble_eq_true rfl) (zdk (cc := code) (q := (533, .invokevirtual 63, 3)) tk_11 6 rfl) (fun y1 => ?_)
  refine zcl_p tk_11 7 5 (pc' := 541) (L' := [(3, .int i), (2, .ref b), (1, .ref a), (0, .ref (zB + 17))]) (S' := [.int (i + 1), .ref (zB + 17), .ref b, .int y1]) rfl ?_
  refine zcl_sld (zdk (cc := code) (q := (541, .iaload, 1)) tk_11 12 rfl) (fun w1 => ?_)
  refine zcl_Vi (rc := rc) (rs := rs) (mc := 0) (ms := 0) (As := [.int w1]) (S := [.int y1]) vmX12_pairs (mtX12_pairs l e (by omega) b w1) q_2112 rfl rfl (Nat.le_of_ble_eq_true rfl) (zdk (cc := code) (q := (542, .invokevirtual 66, 3)) tk_11 13 rfl) (fun y2 => ?_)
  refine zcl_icmp_eq (tgt := 1107) (zdk (cc := code) (q := (545, .if_icmp .eq 562, 3)) tk_11 14 rfl) rfl ?_ ?_
  · exact zcl_p tk_e 0 2 (pc' := 18) (L' := [(3, .int (i + 6)), (2, .ref b), (1, .ref a), (0, .ref (zB + 17))]) (S' := []) rfl (hr (i + 6))
  · refine zcl_p tk_11 15 1 (pc' := 549) (L' := [(3, .int i), (2, .ref b), (1, .ref a), (0, .ref (zB + 17))]) (S' := [.int 0]) rfl ?_
    exact zcl_end rfl (zdk (cc := code) (q := (549, .ireturn, 1)) tk_11 16 rfl)
set_option maxHeartbeats 2000000 in
set_option maxRecDepth 20000 in
theorem lw_w12 (l : Launch) (e : Nat) (he : 80 ≤ e) (rc rs n0 : Nat) (xs : Nat → Int32) (a b : Nat) (i : Int32) (r : Int32 → zM) (hr : ∀ i : Int32, zCl n0 xs l (e + 1) rc rs iLw 18 [(3, .int i), (2, .ref b), (1, .ref a), (0, .ref (zB + 17))] [] (r i)) : zCl n0 xs l (e + 1) rc rs iLw 550 [(3, .int i), (2, .ref b), (1, .ref a), (0, .ref (zB + 17))] [] (lw_c12 n0 xs r a b i) := by
  unfold lw_c12
  refine zcl_p tk_12 0 5 (pc' := 555) (L' := [(3, .int i), (2, .ref b), (1, .ref a), (0, .ref (zB + 17))]) (S' := [.int (i + 1), .ref (zB + 17), .ref a]) rfl ?_
  refine zcl_sld (zdk (cc := code) (q := (555, .iaload, 1)) tk_12 5 rfl) (fun x1 => ?_)
  refine zcl_Vi (rc := rc) (rs := rs) (mc := 0) (ms := 0) (As := [.int x1]) (S := []) vmX11_match (mtX11_match l e (by omega) a x1) q_1081 rfl rfl (Nat.le_of_ble_eq_true rfl) (zdk (cc := code) (q := (556, .invokevirtual 67, 3)) tk_12 6 rfl) (fun y1 => ?_)
  refine zcl_p tk_12 7 5 (pc' := 564) (L' := [(3, .int i), (2, .ref b), (1, .ref a), (0, .ref (zB + 17))]) (S' := [.int (i + 1), .ref (zB + 17), .ref b, .int y1]) rfl ?_
  refine zcl_sld (zdk (cc := code) (q := (564, .iaload, 1)) tk_12 12 rfl) (fun w1 => ?_)
  refine zcl_Vi (rc := rc) (rs := rs) (mc := 0) (ms := 0) (As := [.int w1]) (S := [.int y1]) vmX12_match (mtX12_match l e (by omega) b w1) q_2116 rfl rfl (Nat.le_of_ble_eq_true rfl) (zdk (cc := code) (q := (565, .invokevirtual 70, 3)) tk_12 13 rfl) (fun y2 => ?_)
  refine zcl_icmp_eq (tgt := 1107) (zdk (cc := code) (q := (568, .if_icmp .eq 539, 3)) tk_12 14 rfl) rfl ?_ ?_
  · exact zcl_p tk_e 0 2 (pc' := 18) (L' := [(3, .int (i + 6)), (2, .ref b), (1, .ref a), (0, .ref (zB + 17))]) (S' := []) rfl (hr (i + 6))
  · refine zcl_p tk_12 15 1 (pc' := 572) (L' := [(3, .int i), (2, .ref b), (1, .ref a), (0, .ref (zB + 17))]) (S' := [.int 0]) rfl ?_
    exact zcl_end rfl (zdk (cc := code) (q := (572, .ireturn, 1)) tk_12 16 rfl)
set_option maxHeartbeats 2000000 in
set_option maxRecDepth 20000 in
theorem lw_w13 (l : Launch) (e : Nat) (he : 80 ≤ e) (rc rs n0 : Nat) (xs : Nat → Int32) (a b : Nat) (i : Int32) (r : Int32 → zM) (hr : ∀ i : Int32, zCl n0 xs l (e + 1) rc rs iLw 18 [(3, .int i), (2, .ref b), (1, .ref a), (0, .ref (zB + 17))] [] (r i)) : zCl n0 xs l (e + 1) rc rs iLw 573 [(3, .int i), (2, .ref b), (1, .ref a), (0, .ref (zB + 17))] [] (lw_c13 n0 xs r a b i) := by
  unfold lw_c13
  refine zcl_p tk_13 0 5 (pc' := 578) (L' := [(3, .int i), (2, .ref b), (1, .ref a), (0, .ref (zB + 17))]) (S' := [.int (i + 1), .ref (zB + 17), .ref a]) rfl ?_
  refine zcl_sld (zdk (cc := code) (q := (578, .iaload, 1)) tk_13 5 rfl) (fun x1 => ?_)
  refine zcl_Vi (rc := rc) (rs := rs) (mc := 0) (ms := 0) (As := [.int x1]) (S := []) vmX11_steady (mtX11_steady l e (by omega) a x1) q_1101 rfl rfl (Nat.le_of_ble_eq_true rfl) (zdk (cc := code) (q := (579, .invokevirtual 71, 3)) tk_13 6 rfl) (fun y1 => ?_)
  refine zcl_p tk_13 7 5 (pc' := 587) (L' := [(3, .int i), (2, .ref b), (1, .ref a), (0, .ref (zB + 17))]) (S' := [.int (i + 1), .ref (zB + 17), .ref b, .int y1]) rfl ?_
  refine zcl_sld (zdk (cc := code) (q := (587, .iaload, 1)) tk_13 12 rfl) (fun w1 => ?_)
  refine zcl_Vi (rc := rc) (rs := rs) (mc := 0) (ms := 0) (As := [.int w1]) (S := [.int y1]) vmX12_steady (mtX12_steady l e (by omega) b w1) q_2128 rfl rfl (Nat.le_of_ble_eq_true rfl) (zdk (cc := code) (q := (588, .invokevirtual 74, 3)) tk_13 13 rfl) (fun y2 => ?_)
  refine zcl_icmp_eq (tgt := 1107) (zdk (cc := code) (q := (591, .if_icmp .eq 516, 3)) tk_13 14 rfl) rfl ?_ ?_
  · exact zcl_p tk_e 0 2 (pc' := 18) (L' := [(3, .int (i + 6)), (2, .ref b), (1, .ref a), (0, .ref (zB + 17))]) (S' := []) rfl (hr (i + 6))
  · refine zcl_p tk_13 15 1 (pc' := 595) (L' := [(3, .int i), (2, .ref b), (1, .ref a), (0, .ref (zB + 17))]) (S' := [.int 0]) rfl ?_
    exact zcl_end rfl (zdk (cc := code) (q := (595, .ireturn, 1)) tk_13 16 rfl)
set_option maxHeartbeats 2000000 in
set_option maxRecDepth 20000 in
theorem lw_w14 (l : Launch) (e : Nat) (he : 80 ≤ e) (rc rs n0 : Nat) (xs : Nat → Int32) (a b : Nat) (i : Int32) (r : Int32 → zM) (hr : ∀ i : Int32, zCl n0 xs l (e + 1) rc rs iLw 18 [(3, .int i), (2, .ref b), (1, .ref a), (0, .ref (zB + 17))] [] (r i)) : zCl n0 xs l (e + 1) rc rs iLw 596 [(3, .int i), (2, .ref b), (1, .ref a), (0, .ref (zB + 17))] [] (lw_c14 n0 xs r a b i) := by
  unfold lw_c14
  refine zcl_p tk_14 0 5 (pc' := 601) (L' := [(3, .int i), (2, .ref b), (1, .ref a), (0, .ref (zB + 17))]) (S' := [.int (i + 1), .ref (zB + 17), .ref a]) rfl ?_
  refine zcl_sld (zdk (cc := code) (q := (601, .iaload, 1)) tk_14 5 rfl) (fun x1 => ?_)
  refine zcl_p tk_14 6 4 (pc' := 606) (L' := [(3, .int i), (2, .ref b), (1, .ref a), (0, .ref (zB + 17))]) (S' := [.int (i + 2), .ref (zB + 17), .int x1, .ref a]) rfl ?_
  refine zcl_sld (zdk (cc := code) (q := (606, .iaload, 1)) tk_14 10 rfl) (fun x2 => ?_)
  refine zcl_Vi (rc := rc) (rs := rs) (mc := 0) (ms := 0) (As := [.int x1, .int x2]) (S := []) vmX11_rather (mtX11_rather l e (by omega) a x1 x2) q_1113 rfl rfl (Nat.le_of_ble_eq_true rfl) (zdk (cc := code) (q := (607, .invokevirtual 75, 3)) tk_14 11 rfl) (fun y1 => ?_)
  refine zcl_p tk_14 12 5 (pc' := 615) (L' := [(3, .int i), (2, .ref b), (1, .ref a), (0, .ref (zB + 17))]) (S' := [.int (i + 1), .ref (zB + 17), .ref b, .int y1]) rfl ?_
  refine zcl_sld (zdk (cc := code) (q := (615, .iaload, 1)) tk_14 17 rfl) (fun w1 => ?_)
  refine zcl_p tk_14 18 4 (pc' := 620) (L' := [(3, .int i), (2, .ref b), (1, .ref a), (0, .ref (zB + 17))]) (S' := [.int (i + 2), .ref (zB + 17), .int w1, .ref b, .int y1]) rfl ?_
  refine zcl_sld (zdk (cc := code) (q := (620, .iaload, 1)) tk_14 22 rfl) (fun w2 => ?_)
  refine zcl_Vi (rc := rc) (rs := rs) (mc := 0) (ms := 0) (As := [.int w1, .int w2]) (S := [.int y1]) vmX12_rather (mtX12_rather l e (by omega) b w1 w2) q_2140 rfl rfl (Nat.le_of_ble_eq_true rfl) (zdk (cc := code) (q := (621, .invokevirtual 78, 3)) tk_14 23 rfl) (fun y2 => ?_)
  refine zcl_icmp_eq (tgt := 1107) (zdk (cc := code) (q := (624, .if_icmp .eq 483, 3)) tk_14 24 rfl) rfl ?_ ?_
  · exact zcl_p tk_e 0 2 (pc' := 18) (L' := [(3, .int (i + 6)), (2, .ref b), (1, .ref a), (0, .ref (zB + 17))]) (S' := []) rfl (hr (i + 6))
  · refine zcl_p tk_14 25 1 (pc' := 628) (L' := [(3, .int i), (2, .ref b), (1, .ref a), (0, .ref (zB + 17))]) (S' := [.int 0]) rfl ?_
    exact zcl_end rfl (zdk (cc := code) (q := (628, .ireturn, 1)) tk_14 26 rfl)
set_option maxHeartbeats 2000000 in
set_option maxRecDepth 20000 in
theorem lw_w15 (l : Launch) (e : Nat) (he : 80 ≤ e) (rc rs n0 : Nat) (xs : Nat → Int32) (a b : Nat) (i : Int32) (r : Int32 → zM) (hr : ∀ i : Int32, zCl n0 xs l (e + 1) rc rs iLw 18 [(3, .int i), (2, .ref b), (1, .ref a), (0, .ref (zB + 17))] [] (r i)) : zCl n0 xs l (e + 1) rc rs iLw 629 [(3, .int i), (2, .ref b), (1, .ref a), (0, .ref (zB + 17))] [] (lw_c15 n0 xs r a b i) := by
  unfold lw_c15
  refine zcl_p tk_15 0 5 (pc' := 634) (L' := [(3, .int i), (2, .ref b), (1, .ref a), (0, .ref (zB + 17))]) (S' := [.int (i + 1), .ref (zB + 17), .ref a]) rfl ?_
  refine zcl_sld (zdk (cc := code) (q := (634, .iaload, 1)) tk_15 5 rfl) (fun x1 => ?_)
  refine zcl_p tk_15 6 4 (pc' := 639) (L' := [(3, .int i), (2, .ref b), (1, .ref a), (0, .ref (zB + 17))]) (S' := [.int (i + 2), .ref (zB + 17), .int x1, .ref a]) rfl ?_
  refine zcl_sld (zdk (cc := code) (q := (639, .iaload, 1)) tk_15 10 rfl) (fun x2 => ?_)
  refine zcl_Vi (rc := rc) (rs := rs) (mc := 0) (ms := 0) (As := [.int x1, .int x2]) (S := []) vmX11_teach (mtX11_teach l e (by omega) a x1 x2) q_1124 rfl rfl (Nat.le_of_ble_eq_true rfl) (zdk (cc := code) (q := (640, .invokevirtual 79, 3)) tk_15 11 rfl) (fun y1 => ?_)
  refine zcl_p tk_15 12 5 (pc' := 648) (L' := [(3, .int i), (2, .ref b), (1, .ref a), (0, .ref (zB + 17))]) (S' := [.int (i + 1), .ref (zB + 17), .ref b, .int y1]) rfl ?_
  refine zcl_sld (zdk (cc := code) (q := (648, .iaload, 1)) tk_15 17 rfl) (fun w1 => ?_)
  refine zcl_p tk_15 18 4 (pc' := 653) (L' := [(3, .int i), (2, .ref b), (1, .ref a), (0, .ref (zB + 17))]) (S' := [.int (i + 2), .ref (zB + 17), .int w1, .ref b, .int y1]) rfl ?_
  refine zcl_sld (zdk (cc := code) (q := (653, .iaload, 1)) tk_15 22 rfl) (fun w2 => ?_)
  refine zcl_Vi (rc := rc) (rs := rs) (mc := 0) (ms := 0) (As := [.int w1, .int w2]) (S := [.int y1]) vmX12_teach (mtX12_teach l e (by omega) b w1 w2) q_2148 rfl rfl (Nat.le_of_ble_eq_true rfl) (zdk (cc := code) (q := (654, .invokevirtual 82, 3)) tk_15 23 rfl) (fun y2 => ?_)
  refine zcl_icmp_eq (tgt := 1107) (zdk (cc := code) (q := (657, .if_icmp .eq 450, 3)) tk_15 24 rfl) rfl ?_ ?_
  · exact zcl_p tk_e 0 2 (pc' := 18) (L' := [(3, .int (i + 6)), (2, .ref b), (1, .ref a), (0, .ref (zB + 17))]) (S' := []) rfl (hr (i + 6))
  · refine zcl_p tk_15 25 1 (pc' := 661) (L' := [(3, .int i), (2, .ref b), (1, .ref a), (0, .ref (zB + 17))]) (S' := [.int 0]) rfl ?_
    exact zcl_end rfl (zdk (cc := code) (q := (661, .ireturn, 1)) tk_15 26 rfl)
set_option maxHeartbeats 2000000 in
set_option maxRecDepth 20000 in
theorem lw_w16 (l : Launch) (e : Nat) (he : 80 ≤ e) (rc rs n0 : Nat) (xs : Nat → Int32) (a b : Nat) (i : Int32) (r : Int32 → zM) (hr : ∀ i : Int32, zCl n0 xs l (e + 1) rc rs iLw 18 [(3, .int i), (2, .ref b), (1, .ref a), (0, .ref (zB + 17))] [] (r i)) : zCl n0 xs l (e + 1) rc rs iLw 662 [(3, .int i), (2, .ref b), (1, .ref a), (0, .ref (zB + 17))] [] (lw_c16 n0 xs r a b i) := by
  unfold lw_c16
  refine zcl_p tk_16 0 5 (pc' := 667) (L' := [(3, .int i), (2, .ref b), (1, .ref a), (0, .ref (zB + 17))]) (S' := [.int (i + 1), .ref (zB + 17), .ref a]) rfl ?_
  refine zcl_sld (zdk (cc := code) (q := (667, .iaload, 1)) tk_16 5 rfl) (fun x1 => ?_)
  refine zcl_p tk_16 6 4 (pc' := 672) (L' := [(3, .int i), (2, .ref b), (1, .ref a), (0, .ref (zB + 17))]) (S' := [.int (i + 2), .ref (zB + 17), .int x1, .ref a]) rfl ?_
  refine zcl_sld (zdk (cc := code) (q := (672, .iaload, 1)) tk_16 10 rfl) (fun x2 => ?_)
  refine zcl_Vi (rc := rc) (rs := rs) (mc := 0) (ms := 0) (As := [.int x1, .int x2]) (S := []) vmX11_change (mtX11_change l e (by omega) a x1 x2) q_1143 rfl rfl (Nat.le_of_ble_eq_true rfl) (zdk (cc := code) (q := (673, .invokevirtual 83, 3)) tk_16 11 rfl) (fun y1 => ?_)
  refine zcl_p tk_16 12 5 (pc' := 681) (L' := [(3, .int i), (2, .ref b), (1, .ref a), (0, .ref (zB + 17))]) (S' := [.int (i + 1), .ref (zB + 17), .ref b, .int y1]) rfl ?_
  refine zcl_sld (zdk (cc := code) (q := (681, .iaload, 1)) tk_16 17 rfl) (fun w1 => ?_)
  refine zcl_p tk_16 18 4 (pc' := 686) (L' := [(3, .int i), (2, .ref b), (1, .ref a), (0, .ref (zB + 17))]) (S' := [.int (i + 2), .ref (zB + 17), .int w1, .ref b, .int y1]) rfl ?_
  refine zcl_sld (zdk (cc := code) (q := (686, .iaload, 1)) tk_16 22 rfl) (fun w2 => ?_)
  refine zcl_Vi (rc := rc) (rs := rs) (mc := 0) (ms := 0) (As := [.int w1, .int w2]) (S := [.int y1]) vmX12_change (mtX12_change l e (by omega) b w1 w2) q_2155 rfl rfl (Nat.le_of_ble_eq_true rfl) (zdk (cc := code) (q := (687, .invokevirtual 86, 3)) tk_16 23 rfl) (fun y2 => ?_)
  refine zcl_icmp_eq (tgt := 1107) (zdk (cc := code) (q := (690, .if_icmp .eq 417, 3)) tk_16 24 rfl) rfl ?_ ?_
  · exact zcl_p tk_e 0 2 (pc' := 18) (L' := [(3, .int (i + 6)), (2, .ref b), (1, .ref a), (0, .ref (zB + 17))]) (S' := []) rfl (hr (i + 6))
  · refine zcl_p tk_16 25 1 (pc' := 694) (L' := [(3, .int i), (2, .ref b), (1, .ref a), (0, .ref (zB + 17))]) (S' := [.int 0]) rfl ?_
    exact zcl_end rfl (zdk (cc := code) (q := (694, .ireturn, 1)) tk_16 26 rfl)
set_option maxHeartbeats 2000000 in
set_option maxRecDepth 20000 in
theorem lw_w17 (l : Launch) (e : Nat) (he : 80 ≤ e) (rc rs n0 : Nat) (xs : Nat → Int32) (a b : Nat) (i : Int32) (r : Int32 → zM) (hr : ∀ i : Int32, zCl n0 xs l (e + 1) rc rs iLw 18 [(3, .int i), (2, .ref b), (1, .ref a), (0, .ref (zB + 17))] [] (r i)) : zCl n0 xs l (e + 1) rc rs iLw 695 [(3, .int i), (2, .ref b), (1, .ref a), (0, .ref (zB + 17))] [] (lw_c17 n0 xs r a b i) := by
  unfold lw_c17
  refine zcl_p tk_17 0 5 (pc' := 700) (L' := [(3, .int i), (2, .ref b), (1, .ref a), (0, .ref (zB + 17))]) (S' := [.int (i + 1), .ref (zB + 17), .ref a]) rfl ?_
  refine zcl_sld (zdk (cc := code) (q := (700, .iaload, 1)) tk_17 5 rfl) (fun x1 => ?_)
  refine zcl_Vi (rc := rc) (rs := rs) (mc := 0) (ms := 0) (As := [.int x1]) (S := []) vmX11_odds (mtX11_odds l e (by omega) a x1) q_1160 rfl rfl (Nat.le_of_ble_eq_true rfl) (zdk (cc := code) (q := (701, .invokevirtual 87, 3)) tk_17 6 rfl) (fun y1 => ?_)
  refine zcl_p tk_17 7 5 (pc' := 709) (L' := [(3, .int i), (2, .ref b), (1, .ref a), (0, .ref (zB + 17))]) (S' := [.int (i + 1), .ref (zB + 17), .ref b, .int y1]) rfl ?_
  refine zcl_sld (zdk (cc := code) (q := (709, .iaload, 1)) tk_17 12 rfl) (fun w1 => ?_)
  refine zcl_Vi (rc := rc) (rs := rs) (mc := 0) (ms := 0) (As := [.int w1]) (S := [.int y1]) vmX12_odds (mtX12_odds l e (by omega) b w1) q_2163 rfl rfl (Nat.le_of_ble_eq_true rfl) (zdk (cc := code) (q := (710, .invokevirtual 90, 3)) tk_17 13 rfl) (fun y2 => ?_)
  refine zcl_icmp_eq (tgt := 1107) (zdk (cc := code) (q := (713, .if_icmp .eq 394, 3)) tk_17 14 rfl) rfl ?_ ?_
  · exact zcl_p tk_e 0 2 (pc' := 18) (L' := [(3, .int (i + 6)), (2, .ref b), (1, .ref a), (0, .ref (zB + 17))]) (S' := []) rfl (hr (i + 6))
  · refine zcl_p tk_17 15 1 (pc' := 717) (L' := [(3, .int i), (2, .ref b), (1, .ref a), (0, .ref (zB + 17))]) (S' := [.int 0]) rfl ?_
    exact zcl_end rfl (zdk (cc := code) (q := (717, .ireturn, 1)) tk_17 16 rfl)
set_option maxHeartbeats 2000000 in
set_option maxRecDepth 20000 in
theorem lw_w18 (l : Launch) (e : Nat) (he : 80 ≤ e) (rc rs n0 : Nat) (xs : Nat → Int32) (a b : Nat) (i : Int32) (r : Int32 → zM) (hr : ∀ i : Int32, zCl n0 xs l (e + 1) rc rs iLw 18 [(3, .int i), (2, .ref b), (1, .ref a), (0, .ref (zB + 17))] [] (r i)) : zCl n0 xs l (e + 1) rc rs iLw 718 [(3, .int i), (2, .ref b), (1, .ref a), (0, .ref (zB + 17))] [] (lw_c18 n0 xs r a b i) := by
  unfold lw_c18
  refine zcl_p tk_18 0 1 (pc' := 719) (L' := [(3, .int i), (2, .ref b), (1, .ref a), (0, .ref (zB + 17))]) (S' := [.ref a]) rfl ?_
  refine zcl_Vi (rc := rc) (rs := rs) (mc := 0) (ms := 0) (As := []) (S := []) vmX11_see (mtX11_see l e (by omega) a) q_1175 rfl rfl (Nat.le_of_ble_eq_true rfl) (zdk (cc := code) (q := (719, .invokevirtual 91, 3)) tk_18 1 rfl) (fun y1 => ?_)
  refine zcl_p tk_18 2 1 (pc' := 723) (L' := [(3, .int i), (2, .ref b), (1, .ref a), (0, .ref (zB + 17))]) (S' := [.ref b, .int y1]) rfl ?_
  refine zcl_Vi (rc := rc) (rs := rs) (mc := 0) (ms := 0) (As := []) (S := [.int y1]) vmX12_see (mtX12_see l e (by omega) b) q_2167 rfl rfl (Nat.le_of_ble_eq_true rfl) (zdk (cc := code) (q := (723, .invokevirtual 94, 3)) tk_18 3 rfl) (fun y2 => ?_)
  refine zcl_icmp_eq (tgt := 1107) (zdk (cc := code) (q := (726, .if_icmp .eq 381, 3)) tk_18 4 rfl) rfl ?_ ?_
  · exact zcl_p tk_e 0 2 (pc' := 18) (L' := [(3, .int (i + 6)), (2, .ref b), (1, .ref a), (0, .ref (zB + 17))]) (S' := []) rfl (hr (i + 6))
  · refine zcl_p tk_18 5 1 (pc' := 730) (L' := [(3, .int i), (2, .ref b), (1, .ref a), (0, .ref (zB + 17))]) (S' := [.int 0]) rfl ?_
    exact zcl_end rfl (zdk (cc := code) (q := (730, .ireturn, 1)) tk_18 6 rfl)
set_option maxHeartbeats 2000000 in
set_option maxRecDepth 20000 in
theorem lw_w19 (l : Launch) (e : Nat) (he : 80 ≤ e) (rc rs n0 : Nat) (xs : Nat → Int32) (a b : Nat) (i : Int32) (r : Int32 → zM) (hr : ∀ i : Int32, zCl n0 xs l (e + 1) rc rs iLw 18 [(3, .int i), (2, .ref b), (1, .ref a), (0, .ref (zB + 17))] [] (r i)) : zCl n0 xs l (e + 1) rc rs iLw 731 [(3, .int i), (2, .ref b), (1, .ref a), (0, .ref (zB + 17))] [] (lw_c19 n0 xs r a b i) := by
  unfold lw_c19
  refine zcl_p tk_19 0 5 (pc' := 736) (L' := [(3, .int i), (2, .ref b), (1, .ref a), (0, .ref (zB + 17))]) (S' := [.int (i + 1), .ref (zB + 17), .ref a]) rfl ?_
  refine zcl_sld (zdk (cc := code) (q := (736, .iaload, 1)) tk_19 5 rfl) (fun x1 => ?_)
  refine zcl_Vi (rc := rc) (rs := rs) (mc := 0) (ms := 0) (As := [.int x1]) (S := []) vmX11_sizes (mtX11_sizes l e (by omega) a x1) q_1183 rfl rfl (Nat.le_of_ble_eq_true rfl) (zdk (cc := code) (q := (737, .invokevirtual 95, 3)) tk_19 6 rfl) (fun y1 => ?_)
  refine zcl_p tk_19 7 5 (pc' := 745) (L' := [(3, .int i), (2, .ref b), (1, .ref a), (0, .ref (zB + 17))]) (S' := [.int (i + 1), .ref (zB + 17), .ref b, .int y1]) rfl ?_
  refine zcl_sld (zdk (cc := code) (q := (745, .iaload, 1)) tk_19 12 rfl) (fun w1 => ?_)
  refine zcl_Vi (rc := rc) (rs := rs) (mc := 0) (ms := 0) (As := [.int w1]) (S := [.int y1]) vmX12_sizes (mtX12_sizes l e (by omega) b w1) q_2171 rfl rfl (Nat.le_of_ble_eq_true rfl) (zdk (cc := code) (q := (746, .invokevirtual 98, 3)) tk_19 13 rfl) (fun y2 => ?_)
  refine zcl_icmp_eq (tgt := 1107) (zdk (cc := code) (q := (749, .if_icmp .eq 358, 3)) tk_19 14 rfl) rfl ?_ ?_
  · exact zcl_p tk_e 0 2 (pc' := 18) (L' := [(3, .int (i + 6)), (2, .ref b), (1, .ref a), (0, .ref (zB + 17))]) (S' := []) rfl (hr (i + 6))
  · refine zcl_p tk_19 15 1 (pc' := 753) (L' := [(3, .int i), (2, .ref b), (1, .ref a), (0, .ref (zB + 17))]) (S' := [.int 0]) rfl ?_
    exact zcl_end rfl (zdk (cc := code) (q := (753, .ireturn, 1)) tk_19 16 rfl)
set_option maxHeartbeats 2000000 in
set_option maxRecDepth 20000 in
theorem lw_w20 (l : Launch) (e : Nat) (he : 80 ≤ e) (rc rs n0 : Nat) (xs : Nat → Int32) (a b : Nat) (i : Int32) (r : Int32 → zM) (hr : ∀ i : Int32, zCl n0 xs l (e + 1) rc rs iLw 18 [(3, .int i), (2, .ref b), (1, .ref a), (0, .ref (zB + 17))] [] (r i)) : zCl n0 xs l (e + 1) rc rs iLw 754 [(3, .int i), (2, .ref b), (1, .ref a), (0, .ref (zB + 17))] [] (lw_c20 n0 xs r a b i) := by
  unfold lw_c20
  refine zcl_p tk_20 0 5 (pc' := 759) (L' := [(3, .int i), (2, .ref b), (1, .ref a), (0, .ref (zB + 17))]) (S' := [.int (i + 1), .ref (zB + 17), .ref a]) rfl ?_
  refine zcl_sld (zdk (cc := code) (q := (759, .iaload, 1)) tk_20 5 rfl) (fun x1 => ?_)
  refine zcl_p tk_20 6 4 (pc' := 764) (L' := [(3, .int i), (2, .ref b), (1, .ref a), (0, .ref (zB + 17))]) (S' := [.int (i + 2), .ref (zB + 17), .int x1, .ref a]) rfl ?_
  refine zcl_sld (zdk (cc := code) (q := (764, .iaload, 1)) tk_20 10 rfl) (fun x2 => ?_)
  refine zcl_Vi (rc := rc) (rs := rs) (mc := 0) (ms := 0) (As := [.int x1, .int x2]) (S := []) vmX11_tells (mtX11_tells l e (by omega) a x1 x2) q_1196 rfl rfl (Nat.le_of_ble_eq_true rfl) (zdk (cc := code) (q := (765, .invokevirtual 99, 3)) tk_20 11 rfl) (fun y1 => ?_)
  refine zcl_p tk_20 12 5 (pc' := 773) (L' := [(3, .int i), (2, .ref b), (1, .ref a), (0, .ref (zB + 17))]) (S' := [.int (i + 1), .ref (zB + 17), .ref b, .int y1]) rfl ?_
  refine zcl_sld (zdk (cc := code) (q := (773, .iaload, 1)) tk_20 17 rfl) (fun w1 => ?_)
  refine zcl_p tk_20 18 4 (pc' := 778) (L' := [(3, .int i), (2, .ref b), (1, .ref a), (0, .ref (zB + 17))]) (S' := [.int (i + 2), .ref (zB + 17), .int w1, .ref b, .int y1]) rfl ?_
  refine zcl_sld (zdk (cc := code) (q := (778, .iaload, 1)) tk_20 22 rfl) (fun w2 => ?_)
  refine zcl_Vi (rc := rc) (rs := rs) (mc := 0) (ms := 0) (As := [.int w1, .int w2]) (S := [.int y1]) vmX12_tells (mtX12_tells l e (by omega) b w1 w2) q_2187 rfl rfl (Nat.le_of_ble_eq_true rfl) (zdk (cc := code) (q := (779, .invokevirtual 102, 3)) tk_20 23 rfl) (fun y2 => ?_)
  refine zcl_icmp_eq (tgt := 1107) (zdk (cc := code) (q := (782, .if_icmp .eq 325, 3)) tk_20 24 rfl) rfl ?_ ?_
  · exact zcl_p tk_e 0 2 (pc' := 18) (L' := [(3, .int (i + 6)), (2, .ref b), (1, .ref a), (0, .ref (zB + 17))]) (S' := []) rfl (hr (i + 6))
  · refine zcl_p tk_20 25 1 (pc' := 786) (L' := [(3, .int i), (2, .ref b), (1, .ref a), (0, .ref (zB + 17))]) (S' := [.int 0]) rfl ?_
    exact zcl_end rfl (zdk (cc := code) (q := (786, .ireturn, 1)) tk_20 26 rfl)
set_option maxHeartbeats 2000000 in
set_option maxRecDepth 20000 in
theorem lw_w21 (l : Launch) (e : Nat) (he : 80 ≤ e) (rc rs n0 : Nat) (xs : Nat → Int32) (a b : Nat) (i : Int32) (r : Int32 → zM) (hr : ∀ i : Int32, zCl n0 xs l (e + 1) rc rs iLw 18 [(3, .int i), (2, .ref b), (1, .ref a), (0, .ref (zB + 17))] [] (r i)) : zCl n0 xs l (e + 1) rc rs iLw 787 [(3, .int i), (2, .ref b), (1, .ref a), (0, .ref (zB + 17))] [] (lw_c21 n0 xs r a b i) := by
  unfold lw_c21
  refine zcl_p tk_21 0 5 (pc' := 792) (L' := [(3, .int i), (2, .ref b), (1, .ref a), (0, .ref (zB + 17))]) (S' := [.int (i + 1), .ref (zB + 17), .ref a]) rfl ?_
  refine zcl_sld (zdk (cc := code) (q := (792, .iaload, 1)) tk_21 5 rfl) (fun x1 => ?_)
  refine zcl_Vi (rc := rc) (rs := rs) (mc := 0) (ms := 0) (As := [.int x1]) (S := []) vmX11_rounds (mtX11_rounds l e (by omega) a x1) q_1212 rfl rfl (Nat.le_of_ble_eq_true rfl) (zdk (cc := code) (q := (793, .invokevirtual 103, 3)) tk_21 6 rfl) (fun y1 => ?_)
  refine zcl_p tk_21 7 5 (pc' := 801) (L' := [(3, .int i), (2, .ref b), (1, .ref a), (0, .ref (zB + 17))]) (S' := [.int (i + 1), .ref (zB + 17), .ref b, .int y1]) rfl ?_
  refine zcl_sld (zdk (cc := code) (q := (801, .iaload, 1)) tk_21 12 rfl) (fun w1 => ?_)
  refine zcl_Vi (rc := rc) (rs := rs) (mc := 0) (ms := 0) (As := [.int w1]) (S := [.int y1]) vmX12_rounds (mtX12_rounds l e (by omega) b w1) q_2200 rfl rfl (Nat.le_of_ble_eq_true rfl) (zdk (cc := code) (q := (802, .invokevirtual 106, 3)) tk_21 13 rfl) (fun y2 => ?_)
  refine zcl_icmp_eq (tgt := 1107) (zdk (cc := code) (q := (805, .if_icmp .eq 302, 3)) tk_21 14 rfl) rfl ?_ ?_
  · exact zcl_p tk_e 0 2 (pc' := 18) (L' := [(3, .int (i + 6)), (2, .ref b), (1, .ref a), (0, .ref (zB + 17))]) (S' := []) rfl (hr (i + 6))
  · refine zcl_p tk_21 15 1 (pc' := 809) (L' := [(3, .int i), (2, .ref b), (1, .ref a), (0, .ref (zB + 17))]) (S' := [.int 0]) rfl ?_
    exact zcl_end rfl (zdk (cc := code) (q := (809, .ireturn, 1)) tk_21 16 rfl)
set_option maxHeartbeats 2000000 in
set_option maxRecDepth 20000 in
theorem lw_w22 (l : Launch) (e : Nat) (he : 80 ≤ e) (rc rs n0 : Nat) (xs : Nat → Int32) (a b : Nat) (i : Int32) (r : Int32 → zM) (hr : ∀ i : Int32, zCl n0 xs l (e + 1) rc rs iLw 18 [(3, .int i), (2, .ref b), (1, .ref a), (0, .ref (zB + 17))] [] (r i)) : zCl n0 xs l (e + 1) rc rs iLw 810 [(3, .int i), (2, .ref b), (1, .ref a), (0, .ref (zB + 17))] [] (lw_c22 n0 xs r a b i) := by
  unfold lw_c22
  refine zcl_p tk_22 0 5 (pc' := 815) (L' := [(3, .int i), (2, .ref b), (1, .ref a), (0, .ref (zB + 17))]) (S' := [.int (i + 1), .ref (zB + 17), .ref a]) rfl ?_
  refine zcl_sld (zdk (cc := code) (q := (815, .iaload, 1)) tk_22 5 rfl) (fun x1 => ?_)
  refine zcl_Vi (rc := rc) (rs := rs) (mc := 0) (ms := 0) (As := [.int x1]) (S := []) vmX11_chance (mtX11_chance l e (by omega) a x1) q_1230 rfl rfl (Nat.le_of_ble_eq_true rfl) (zdk (cc := code) (q := (816, .invokevirtual 107, 3)) tk_22 6 rfl) (fun y1 => ?_)
  refine zcl_p tk_22 7 5 (pc' := 824) (L' := [(3, .int i), (2, .ref b), (1, .ref a), (0, .ref (zB + 17))]) (S' := [.int (i + 1), .ref (zB + 17), .ref b, .int y1]) rfl ?_
  refine zcl_sld (zdk (cc := code) (q := (824, .iaload, 1)) tk_22 12 rfl) (fun w1 => ?_)
  refine zcl_Vi (rc := rc) (rs := rs) (mc := 0) (ms := 0) (As := [.int w1]) (S := [.int y1]) vmX12_chance (mtX12_chance l e (by omega) b w1) q_2216 rfl rfl (Nat.le_of_ble_eq_true rfl) (zdk (cc := code) (q := (825, .invokevirtual 110, 3)) tk_22 13 rfl) (fun y2 => ?_)
  refine zcl_icmp_eq (tgt := 1107) (zdk (cc := code) (q := (828, .if_icmp .eq 279, 3)) tk_22 14 rfl) rfl ?_ ?_
  · exact zcl_p tk_e 0 2 (pc' := 18) (L' := [(3, .int (i + 6)), (2, .ref b), (1, .ref a), (0, .ref (zB + 17))]) (S' := []) rfl (hr (i + 6))
  · refine zcl_p tk_22 15 1 (pc' := 832) (L' := [(3, .int i), (2, .ref b), (1, .ref a), (0, .ref (zB + 17))]) (S' := [.int 0]) rfl ?_
    exact zcl_end rfl (zdk (cc := code) (q := (832, .ireturn, 1)) tk_22 16 rfl)
set_option maxHeartbeats 2000000 in
set_option maxRecDepth 20000 in
theorem lw_w23 (l : Launch) (e : Nat) (he : 80 ≤ e) (rc rs n0 : Nat) (xs : Nat → Int32) (a b : Nat) (i : Int32) (r : Int32 → zM) (hr : ∀ i : Int32, zCl n0 xs l (e + 1) rc rs iLw 18 [(3, .int i), (2, .ref b), (1, .ref a), (0, .ref (zB + 17))] [] (r i)) : zCl n0 xs l (e + 1) rc rs iLw 833 [(3, .int i), (2, .ref b), (1, .ref a), (0, .ref (zB + 17))] [] (lw_c23 n0 xs r a b i) := by
  unfold lw_c23
  refine zcl_p tk_23 0 5 (pc' := 838) (L' := [(3, .int i), (2, .ref b), (1, .ref a), (0, .ref (zB + 17))]) (S' := [.int (i + 1), .ref (zB + 17), .ref a]) rfl ?_
  refine zcl_sld (zdk (cc := code) (q := (838, .iaload, 1)) tk_23 5 rfl) (fun x1 => ?_)
  refine zcl_Vi (rc := rc) (rs := rs) (mc := 0) (ms := 0) (As := [.int x1]) (S := []) vmX11_part (mtX11_part l e (by omega) a x1) q_1242 rfl rfl (Nat.le_of_ble_eq_true rfl) (zdk (cc := code) (q := (839, .invokevirtual 111, 3)) tk_23 6 rfl) (fun y1 => ?_)
  refine zcl_p tk_23 7 5 (pc' := 847) (L' := [(3, .int i), (2, .ref b), (1, .ref a), (0, .ref (zB + 17))]) (S' := [.int (i + 1), .ref (zB + 17), .ref b, .int y1]) rfl ?_
  refine zcl_sld (zdk (cc := code) (q := (847, .iaload, 1)) tk_23 12 rfl) (fun w1 => ?_)
  refine zcl_Vi (rc := rc) (rs := rs) (mc := 0) (ms := 0) (As := [.int w1]) (S := [.int y1]) vmX12_part (mtX12_part l e (by omega) b w1) q_2228 rfl rfl (Nat.le_of_ble_eq_true rfl) (zdk (cc := code) (q := (848, .invokevirtual 114, 3)) tk_23 13 rfl) (fun y2 => ?_)
  refine zcl_icmp_eq (tgt := 1107) (zdk (cc := code) (q := (851, .if_icmp .eq 256, 3)) tk_23 14 rfl) rfl ?_ ?_
  · exact zcl_p tk_e 0 2 (pc' := 18) (L' := [(3, .int (i + 6)), (2, .ref b), (1, .ref a), (0, .ref (zB + 17))]) (S' := []) rfl (hr (i + 6))
  · refine zcl_p tk_23 15 1 (pc' := 855) (L' := [(3, .int i), (2, .ref b), (1, .ref a), (0, .ref (zB + 17))]) (S' := [.int 0]) rfl ?_
    exact zcl_end rfl (zdk (cc := code) (q := (855, .ireturn, 1)) tk_23 16 rfl)
set_option maxHeartbeats 2000000 in
set_option maxRecDepth 20000 in
theorem lw_w24 (l : Launch) (e : Nat) (he : 80 ≤ e) (rc rs n0 : Nat) (xs : Nat → Int32) (a b : Nat) (i : Int32) (r : Int32 → zM) (hr : ∀ i : Int32, zCl n0 xs l (e + 1) rc rs iLw 18 [(3, .int i), (2, .ref b), (1, .ref a), (0, .ref (zB + 17))] [] (r i)) : zCl n0 xs l (e + 1) rc rs iLw 856 [(3, .int i), (2, .ref b), (1, .ref a), (0, .ref (zB + 17))] [] (lw_c24 n0 xs r a b i) := by
  unfold lw_c24
  refine zcl_p tk_24 0 5 (pc' := 861) (L' := [(3, .int i), (2, .ref b), (1, .ref a), (0, .ref (zB + 17))]) (S' := [.int (i + 1), .ref (zB + 17), .ref a]) rfl ?_
  refine zcl_sld (zdk (cc := code) (q := (861, .iaload, 1)) tk_24 5 rfl) (fun x1 => ?_)
  refine zcl_p tk_24 6 4 (pc' := 866) (L' := [(3, .int i), (2, .ref b), (1, .ref a), (0, .ref (zB + 17))]) (S' := [.int (i + 2), .ref (zB + 17), .int x1, .ref a]) rfl ?_
  refine zcl_sld (zdk (cc := code) (q := (866, .iaload, 1)) tk_24 10 rfl) (fun x2 => ?_)
  refine zcl_p tk_24 11 4 (pc' := 871) (L' := [(3, .int i), (2, .ref b), (1, .ref a), (0, .ref (zB + 17))]) (S' := [.int (i + 3), .ref (zB + 17), .int x2, .int x1, .ref a]) rfl ?_
  refine zcl_sld (zdk (cc := code) (q := (871, .iaload, 1)) tk_24 15 rfl) (fun x3 => ?_)
  refine zcl_Vi (rc := rc) (rs := rs) (mc := 0) (ms := 0) (As := [.int x1, .int x2, .int x3]) (S := []) vmX11_learn (mtX11_learn l e (by omega) a x1 x2 x3) q_1246 rfl rfl (Nat.le_of_ble_eq_true rfl) (zdk (cc := code) (q := (872, .invokevirtual 115, 3)) tk_24 16 rfl) (fun y1 => ?_)
  refine zcl_p tk_24 17 5 (pc' := 880) (L' := [(3, .int i), (2, .ref b), (1, .ref a), (0, .ref (zB + 17))]) (S' := [.int (i + 1), .ref (zB + 17), .ref b, .int y1]) rfl ?_
  refine zcl_sld (zdk (cc := code) (q := (880, .iaload, 1)) tk_24 22 rfl) (fun w1 => ?_)
  refine zcl_p tk_24 23 4 (pc' := 885) (L' := [(3, .int i), (2, .ref b), (1, .ref a), (0, .ref (zB + 17))]) (S' := [.int (i + 2), .ref (zB + 17), .int w1, .ref b, .int y1]) rfl ?_
  refine zcl_sld (zdk (cc := code) (q := (885, .iaload, 1)) tk_24 27 rfl) (fun w2 => ?_)
  refine zcl_p tk_24 28 4 (pc' := 890) (L' := [(3, .int i), (2, .ref b), (1, .ref a), (0, .ref (zB + 17))]) (S' := [.int (i + 3), .ref (zB + 17), .int w2, .int w1, .ref b, .int y1]) rfl ?_
  refine zcl_sld (zdk (cc := code) (q := (890, .iaload, 1)) tk_24 32 rfl) (fun w3 => ?_)
  refine zcl_Vi (rc := rc) (rs := rs) (mc := 0) (ms := 0) (As := [.int w1, .int w2, .int w3]) (S := [.int y1]) vmX12_learn (mtX12_learn l e (by omega) b w1 w2 w3) q_2232 rfl rfl (Nat.le_of_ble_eq_true rfl) (zdk (cc := code) (q := (891, .invokevirtual 119, 3)) tk_24 33 rfl) (fun y2 => ?_)
  refine zcl_icmp_eq (tgt := 1107) (zdk (cc := code) (q := (894, .if_icmp .eq 213, 3)) tk_24 34 rfl) rfl ?_ ?_
  · exact zcl_p tk_e 0 2 (pc' := 18) (L' := [(3, .int (i + 6)), (2, .ref b), (1, .ref a), (0, .ref (zB + 17))]) (S' := []) rfl (hr (i + 6))
  · refine zcl_p tk_24 35 1 (pc' := 898) (L' := [(3, .int i), (2, .ref b), (1, .ref a), (0, .ref (zB + 17))]) (S' := [.int 0]) rfl ?_
    exact zcl_end rfl (zdk (cc := code) (q := (898, .ireturn, 1)) tk_24 36 rfl)
set_option maxHeartbeats 2000000 in
set_option maxRecDepth 20000 in
theorem lw_w25 (l : Launch) (e : Nat) (he : 80 ≤ e) (rc rs n0 : Nat) (xs : Nat → Int32) (a b : Nat) (i : Int32) (r : Int32 → zM) (hr : ∀ i : Int32, zCl n0 xs l (e + 1) rc rs iLw 18 [(3, .int i), (2, .ref b), (1, .ref a), (0, .ref (zB + 17))] [] (r i)) : zCl n0 xs l (e + 1) rc rs iLw 899 [(3, .int i), (2, .ref b), (1, .ref a), (0, .ref (zB + 17))] [] (lw_c25 n0 xs r a b i) := by
  unfold lw_c25
  refine zcl_p tk_25 0 5 (pc' := 904) (L' := [(3, .int i), (2, .ref b), (1, .ref a), (0, .ref (zB + 17))]) (S' := [.int (i + 1), .ref (zB + 17), .ref a]) rfl ?_
  refine zcl_sld (zdk (cc := code) (q := (904, .iaload, 1)) tk_25 5 rfl) (fun x1 => ?_)
  refine zcl_p tk_25 6 4 (pc' := 909) (L' := [(3, .int i), (2, .ref b), (1, .ref a), (0, .ref (zB + 17))]) (S' := [.int (i + 2), .ref (zB + 17), .int x1, .ref a]) rfl ?_
  refine zcl_sld (zdk (cc := code) (q := (909, .iaload, 1)) tk_25 10 rfl) (fun x2 => ?_)
  refine zcl_p tk_25 11 4 (pc' := 914) (L' := [(3, .int i), (2, .ref b), (1, .ref a), (0, .ref (zB + 17))]) (S' := [.int (i + 3), .ref (zB + 17), .int x2, .int x1, .ref a]) rfl ?_
  refine zcl_sld (zdk (cc := code) (q := (914, .iaload, 1)) tk_25 15 rfl) (fun x3 => ?_)
  refine zcl_Vi (rc := rc) (rs := rs) (mc := 0) (ms := 0) (As := [.int x1, .int x2, .int x3]) (S := []) vmX11_like (mtX11_like l e (by omega) a x1 x2 x3) q_1254 rfl rfl (Nat.le_of_ble_eq_true rfl) (zdk (cc := code) (q := (915, .invokevirtual 120, 3)) tk_25 16 rfl) (fun y1 => ?_)
  refine zcl_p tk_25 17 5 (pc' := 923) (L' := [(3, .int i), (2, .ref b), (1, .ref a), (0, .ref (zB + 17))]) (S' := [.int (i + 1), .ref (zB + 17), .ref b, .int y1]) rfl ?_
  refine zcl_sld (zdk (cc := code) (q := (923, .iaload, 1)) tk_25 22 rfl) (fun w1 => ?_)
  refine zcl_p tk_25 23 4 (pc' := 928) (L' := [(3, .int i), (2, .ref b), (1, .ref a), (0, .ref (zB + 17))]) (S' := [.int (i + 2), .ref (zB + 17), .int w1, .ref b, .int y1]) rfl ?_
  refine zcl_sld (zdk (cc := code) (q := (928, .iaload, 1)) tk_25 27 rfl) (fun w2 => ?_)
  refine zcl_p tk_25 28 4 (pc' := 933) (L' := [(3, .int i), (2, .ref b), (1, .ref a), (0, .ref (zB + 17))]) (S' := [.int (i + 3), .ref (zB + 17), .int w2, .int w1, .ref b, .int y1]) rfl ?_
  refine zcl_sld (zdk (cc := code) (q := (933, .iaload, 1)) tk_25 32 rfl) (fun w3 => ?_)
  refine zcl_Vi (rc := rc) (rs := rs) (mc := 0) (ms := 0) (As := [.int w1, .int w2, .int w3]) (S := [.int y1]) vmX12_like (mtX12_like l e (by omega) b w1 w2 w3) q_2241 rfl rfl (Nat.le_of_ble_eq_true rfl) (zdk (cc := code) (q := (934, .invokevirtual 123, 3)) tk_25 33 rfl) (fun y2 => ?_)
  refine zcl_icmp_eq (tgt := 1107) (zdk (cc := code) (q := (937, .if_icmp .eq 170, 3)) tk_25 34 rfl) rfl ?_ ?_
  · exact zcl_p tk_e 0 2 (pc' := 18) (L' := [(3, .int (i + 6)), (2, .ref b), (1, .ref a), (0, .ref (zB + 17))]) (S' := []) rfl (hr (i + 6))
  · refine zcl_p tk_25 35 1 (pc' := 941) (L' := [(3, .int i), (2, .ref b), (1, .ref a), (0, .ref (zB + 17))]) (S' := [.int 0]) rfl ?_
    exact zcl_end rfl (zdk (cc := code) (q := (941, .ireturn, 1)) tk_25 36 rfl)
set_option maxHeartbeats 2000000 in
set_option maxRecDepth 20000 in
theorem lw_w26 (l : Launch) (e : Nat) (he : 80 ≤ e) (rc rs n0 : Nat) (xs : Nat → Int32) (a b : Nat) (i : Int32) (r : Int32 → zM) (hr : ∀ i : Int32, zCl n0 xs l (e + 1) rc rs iLw 18 [(3, .int i), (2, .ref b), (1, .ref a), (0, .ref (zB + 17))] [] (r i)) : zCl n0 xs l (e + 1) rc rs iLw 942 [(3, .int i), (2, .ref b), (1, .ref a), (0, .ref (zB + 17))] [] (lw_c26 n0 xs r a b i) := by
  unfold lw_c26
  refine zcl_p tk_26 0 5 (pc' := 947) (L' := [(3, .int i), (2, .ref b), (1, .ref a), (0, .ref (zB + 17))]) (S' := [.int (i + 1), .ref (zB + 17), .ref a]) rfl ?_
  refine zcl_sld (zdk (cc := code) (q := (947, .iaload, 1)) tk_26 5 rfl) (fun x1 => ?_)
  refine zcl_p tk_26 6 4 (pc' := 952) (L' := [(3, .int i), (2, .ref b), (1, .ref a), (0, .ref (zB + 17))]) (S' := [.int (i + 2), .ref (zB + 17), .int x1, .ref a]) rfl ?_
  refine zcl_sld (zdk (cc := code) (q := (952, .iaload, 1)) tk_26 10 rfl) (fun x2 => ?_)
  refine zcl_p tk_26 11 4 (pc' := 957) (L' := [(3, .int i), (2, .ref b), (1, .ref a), (0, .ref (zB + 17))]) (S' := [.int (i + 3), .ref (zB + 17), .int x2, .int x1, .ref a]) rfl ?_
  refine zcl_sld (zdk (cc := code) (q := (957, .iaload, 1)) tk_26 15 rfl) (fun x3 => ?_)
  refine zcl_Vi (rc := rc) (rs := rs) (mc := 0) (ms := 0) (As := [.int x1, .int x2, .int x3]) (S := []) vmX11_swap (mtX11_swap l e (by omega) a x1 x2 x3) q_1258 rfl rfl (Nat.le_of_ble_eq_true rfl) (zdk (cc := code) (q := (958, .invokevirtual 124, 3)) tk_26 16 rfl) (fun y1 => ?_)
  refine zcl_p tk_26 17 5 (pc' := 966) (L' := [(3, .int i), (2, .ref b), (1, .ref a), (0, .ref (zB + 17))]) (S' := [.int (i + 1), .ref (zB + 17), .ref b, .int y1]) rfl ?_
  refine zcl_sld (zdk (cc := code) (q := (966, .iaload, 1)) tk_26 22 rfl) (fun w1 => ?_)
  refine zcl_p tk_26 23 4 (pc' := 971) (L' := [(3, .int i), (2, .ref b), (1, .ref a), (0, .ref (zB + 17))]) (S' := [.int (i + 2), .ref (zB + 17), .int w1, .ref b, .int y1]) rfl ?_
  refine zcl_sld (zdk (cc := code) (q := (971, .iaload, 1)) tk_26 27 rfl) (fun w2 => ?_)
  refine zcl_p tk_26 28 4 (pc' := 976) (L' := [(3, .int i), (2, .ref b), (1, .ref a), (0, .ref (zB + 17))]) (S' := [.int (i + 3), .ref (zB + 17), .int w2, .int w1, .ref b, .int y1]) rfl ?_
  refine zcl_sld (zdk (cc := code) (q := (976, .iaload, 1)) tk_26 32 rfl) (fun w3 => ?_)
  refine zcl_Vi (rc := rc) (rs := rs) (mc := 0) (ms := 0) (As := [.int w1, .int w2, .int w3]) (S := [.int y1]) vmX12_swap (mtX12_swap l e (by omega) b w1 w2 w3) q_2245 rfl rfl (Nat.le_of_ble_eq_true rfl) (zdk (cc := code) (q := (977, .invokevirtual 127, 3)) tk_26 33 rfl) (fun y2 => ?_)
  refine zcl_icmp_eq (tgt := 1107) (zdk (cc := code) (q := (980, .if_icmp .eq 127, 3)) tk_26 34 rfl) rfl ?_ ?_
  · exact zcl_p tk_e 0 2 (pc' := 18) (L' := [(3, .int (i + 6)), (2, .ref b), (1, .ref a), (0, .ref (zB + 17))]) (S' := []) rfl (hr (i + 6))
  · refine zcl_p tk_26 35 1 (pc' := 984) (L' := [(3, .int i), (2, .ref b), (1, .ref a), (0, .ref (zB + 17))]) (S' := [.int 0]) rfl ?_
    exact zcl_end rfl (zdk (cc := code) (q := (984, .ireturn, 1)) tk_26 36 rfl)
set_option maxHeartbeats 2000000 in
set_option maxRecDepth 20000 in
theorem lw_w27 (l : Launch) (e : Nat) (he : 80 ≤ e) (rc rs n0 : Nat) (xs : Nat → Int32) (a b : Nat) (i : Int32) (r : Int32 → zM) (hr : ∀ i : Int32, zCl n0 xs l (e + 1) rc rs iLw 18 [(3, .int i), (2, .ref b), (1, .ref a), (0, .ref (zB + 17))] [] (r i)) : zCl n0 xs l (e + 1) rc rs iLw 985 [(3, .int i), (2, .ref b), (1, .ref a), (0, .ref (zB + 17))] [] (lw_c27 n0 xs r a b i) := by
  unfold lw_c27
  refine zcl_p tk_27 0 1 (pc' := 986) (L' := [(3, .int i), (2, .ref b), (1, .ref a), (0, .ref (zB + 17))]) (S' := [.ref a]) rfl ?_
  refine zcl_Vi (rc := rc) (rs := rs) (mc := 0) (ms := 0) (As := []) (S := []) vmX11_undo (mtX11_undo l e (by omega) a) q_1267 rfl rfl (Nat.le_of_ble_eq_true rfl) (zdk (cc := code) (q := (986, .invokevirtual 128, 3)) tk_27 1 rfl) (fun y1 => ?_)
  refine zcl_p tk_27 2 1 (pc' := 990) (L' := [(3, .int i), (2, .ref b), (1, .ref a), (0, .ref (zB + 17))]) (S' := [.ref b, .int y1]) rfl ?_
  refine zcl_Vi (rc := rc) (rs := rs) (mc := 0) (ms := 0) (As := []) (S := [.int y1]) vmX12_undo (mtX12_undo l e (by omega) b) q_2196 rfl rfl (Nat.le_of_ble_eq_true rfl) (zdk (cc := code) (q := (990, .invokevirtual 132, 3)) tk_27 3 rfl) (fun y2 => ?_)
  refine zcl_icmp_eq (tgt := 1107) (zdk (cc := code) (q := (993, .if_icmp .eq 114, 3)) tk_27 4 rfl) rfl ?_ ?_
  · exact zcl_p tk_e 0 2 (pc' := 18) (L' := [(3, .int (i + 6)), (2, .ref b), (1, .ref a), (0, .ref (zB + 17))]) (S' := []) rfl (hr (i + 6))
  · refine zcl_p tk_27 5 1 (pc' := 997) (L' := [(3, .int i), (2, .ref b), (1, .ref a), (0, .ref (zB + 17))]) (S' := [.int 0]) rfl ?_
    exact zcl_end rfl (zdk (cc := code) (q := (997, .ireturn, 1)) tk_27 6 rfl)
set_option maxHeartbeats 2000000 in
set_option maxRecDepth 20000 in
theorem lw_w28 (l : Launch) (e : Nat) (he : 80 ≤ e) (rc rs n0 : Nat) (xs : Nat → Int32) (a b : Nat) (i : Int32) (r : Int32 → zM) (hr : ∀ i : Int32, zCl n0 xs l (e + 1) rc rs iLw 18 [(3, .int i), (2, .ref b), (1, .ref a), (0, .ref (zB + 17))] [] (r i)) : zCl n0 xs l (e + 1) rc rs iLw 998 [(3, .int i), (2, .ref b), (1, .ref a), (0, .ref (zB + 17))] [] (lw_c28 n0 xs r a b i) := by
  unfold lw_c28
  refine zcl_p tk_28 0 5 (pc' := 1003) (L' := [(3, .int i), (2, .ref b), (1, .ref a), (0, .ref (zB + 17))]) (S' := [.int (i + 1), .ref (zB + 17), .ref a]) rfl ?_
  refine zcl_sld (zdk (cc := code) (q := (1003, .iaload, 1)) tk_28 5 rfl) (fun x1 => ?_)
  refine zcl_Vi (rc := rc) (rs := rs) (mc := 0) (ms := 0) (As := [.int x1]) (S := []) vmX11_seed (mtX11_seed l e (by omega) a x1) q_1275 rfl rfl (Nat.le_of_ble_eq_true rfl) (zdk (cc := code) (q := (1004, .invokevirtual 133, 3)) tk_28 6 rfl) (fun y1 => ?_)
  refine zcl_p tk_28 7 5 (pc' := 1012) (L' := [(3, .int i), (2, .ref b), (1, .ref a), (0, .ref (zB + 17))]) (S' := [.int (i + 1), .ref (zB + 17), .ref b, .int y1]) rfl ?_
  refine zcl_sld (zdk (cc := code) (q := (1012, .iaload, 1)) tk_28 12 rfl) (fun w1 => ?_)
  refine zcl_Vi (rc := rc) (rs := rs) (mc := 0) (ms := 0) (As := [.int w1]) (S := [.int y1]) vmX12_seed (mtX12_seed l e (by omega) b w1) q_2208 rfl rfl (Nat.le_of_ble_eq_true rfl) (zdk (cc := code) (q := (1013, .invokevirtual 136, 3)) tk_28 13 rfl) (fun y2 => ?_)
  refine zcl_icmp_eq (tgt := 1107) (zdk (cc := code) (q := (1016, .if_icmp .eq 91, 3)) tk_28 14 rfl) rfl ?_ ?_
  · exact zcl_p tk_e 0 2 (pc' := 18) (L' := [(3, .int (i + 6)), (2, .ref b), (1, .ref a), (0, .ref (zB + 17))]) (S' := []) rfl (hr (i + 6))
  · refine zcl_p tk_28 15 1 (pc' := 1020) (L' := [(3, .int i), (2, .ref b), (1, .ref a), (0, .ref (zB + 17))]) (S' := [.int 0]) rfl ?_
    exact zcl_end rfl (zdk (cc := code) (q := (1020, .ireturn, 1)) tk_28 16 rfl)
set_option maxHeartbeats 2000000 in
set_option maxRecDepth 20000 in
theorem lw_w29 (l : Launch) (e : Nat) (he : 80 ≤ e) (rc rs n0 : Nat) (xs : Nat → Int32) (a b : Nat) (i : Int32) (r : Int32 → zM) (hr : ∀ i : Int32, zCl n0 xs l (e + 1) rc rs iLw 18 [(3, .int i), (2, .ref b), (1, .ref a), (0, .ref (zB + 17))] [] (r i)) : zCl n0 xs l (e + 1) rc rs iLw 1021 [(3, .int i), (2, .ref b), (1, .ref a), (0, .ref (zB + 17))] [] (lw_c29 n0 xs r a b i) := by
  unfold lw_c29
  refine zcl_p tk_29 0 1 (pc' := 1022) (L' := [(3, .int i), (2, .ref b), (1, .ref a), (0, .ref (zB + 17))]) (S' := [.ref a]) rfl ?_
  refine zcl_Vl (rc := rc) (rs := rs) (mc := 0) (ms := 0) (As := []) (S := []) vmX11_ask (mtX11_ask l e (by omega) a) q_1279 rfl rfl (Nat.le_of_ble_eq_true rfl) (zdk (cc := code) (q := (1022, .invokevirtual 137, 3)) tk_29 1 rfl) (fun y1 => ?_)
  refine zcl_p tk_29 2 1 (pc' := 1026) (L' := [(3, .int i), (2, .ref b), (1, .ref a), (0, .ref (zB + 17))]) (S' := [.ref b, .long y1]) rfl ?_
  refine zcl_Vl (rc := rc) (rs := rs) (mc := 0) (ms := 0) (As := []) (S := [.long y1]) vmX12_ask (mtX12_ask l e (by omega) b) q_2249 rfl rfl (Nat.le_of_ble_eq_true rfl) (zdk (cc := code) (q := (1026, .invokevirtual 141, 3)) tk_29 3 rfl) (fun y2 => ?_)
  refine zcl_lcmp_eq (tgt := 1107) (zdk (cc := code) (q := (1029, .lcmp, 1)) tk_29 4 rfl) (zdk (cc := code) (q := (1030, .ifCond .eq 77, 3)) tk_29 5 rfl) rfl ?_ ?_
  · exact zcl_p tk_e 0 2 (pc' := 18) (L' := [(3, .int (i + 6)), (2, .ref b), (1, .ref a), (0, .ref (zB + 17))]) (S' := []) rfl (hr (i + 6))
  · refine zcl_p tk_29 6 1 (pc' := 1034) (L' := [(3, .int i), (2, .ref b), (1, .ref a), (0, .ref (zB + 17))]) (S' := [.int 0]) rfl ?_
    exact zcl_end rfl (zdk (cc := code) (q := (1034, .ireturn, 1)) tk_29 7 rfl)
set_option maxHeartbeats 2000000 in
set_option maxRecDepth 20000 in
theorem lw_w30 (l : Launch) (e : Nat) (he : 80 ≤ e) (rc rs n0 : Nat) (xs : Nat → Int32) (a b : Nat) (i : Int32) (r : Int32 → zM) (hr : ∀ i : Int32, zCl n0 xs l (e + 1) rc rs iLw 18 [(3, .int i), (2, .ref b), (1, .ref a), (0, .ref (zB + 17))] [] (r i)) : zCl n0 xs l (e + 1) rc rs iLw 1035 [(3, .int i), (2, .ref b), (1, .ref a), (0, .ref (zB + 17))] [] (lw_c30 n0 xs r a b i) := by
  unfold lw_c30
  refine zcl_p tk_30 0 1 (pc' := 1036) (L' := [(3, .int i), (2, .ref b), (1, .ref a), (0, .ref (zB + 17))]) (S' := [.ref a]) rfl ?_
  refine zcl_Vi (rc := rc) (rs := rs) (mc := 0) (ms := 0) (As := []) (S := []) vmX11_image (mtX11_image l e (by omega) a) q_1329 rfl rfl (Nat.le_of_ble_eq_true rfl) (zdk (cc := code) (q := (1036, .invokevirtual 142, 3)) tk_30 1 rfl) (fun y1 => ?_)
  refine zcl_p tk_30 2 1 (pc' := 1040) (L' := [(3, .int i), (2, .ref b), (1, .ref a), (0, .ref (zB + 17))]) (S' := [.ref b, .int y1]) rfl ?_
  refine zcl_Vi (rc := rc) (rs := rs) (mc := 0) (ms := 0) (As := []) (S := [.int y1]) vmX12_image (mtX12_image l e (by omega) b) q_2279 rfl rfl (Nat.le_of_ble_eq_true rfl) (zdk (cc := code) (q := (1040, .invokevirtual 145, 3)) tk_30 3 rfl) (fun y2 => ?_)
  refine zcl_icmp_eq (tgt := 1107) (zdk (cc := code) (q := (1043, .if_icmp .eq 64, 3)) tk_30 4 rfl) rfl ?_ ?_
  · exact zcl_p tk_e 0 2 (pc' := 18) (L' := [(3, .int (i + 6)), (2, .ref b), (1, .ref a), (0, .ref (zB + 17))]) (S' := []) rfl (hr (i + 6))
  · refine zcl_p tk_30 5 1 (pc' := 1047) (L' := [(3, .int i), (2, .ref b), (1, .ref a), (0, .ref (zB + 17))]) (S' := [.int 0]) rfl ?_
    exact zcl_end rfl (zdk (cc := code) (q := (1047, .ireturn, 1)) tk_30 6 rfl)
set_option maxHeartbeats 2000000 in
set_option maxRecDepth 20000 in
theorem lw_w31 (l : Launch) (e : Nat) (he : 80 ≤ e) (rc rs n0 : Nat) (xs : Nat → Int32) (a b : Nat) (i : Int32) (r : Int32 → zM) (hr : ∀ i : Int32, zCl n0 xs l (e + 1) rc rs iLw 18 [(3, .int i), (2, .ref b), (1, .ref a), (0, .ref (zB + 17))] [] (r i)) : zCl n0 xs l (e + 1) rc rs iLw 1048 [(3, .int i), (2, .ref b), (1, .ref a), (0, .ref (zB + 17))] [] (lw_c31 n0 xs r a b i) := by
  unfold lw_c31
  refine zcl_p tk_31 0 5 (pc' := 1053) (L' := [(3, .int i), (2, .ref b), (1, .ref a), (0, .ref (zB + 17))]) (S' := [.int (i + 1), .ref (zB + 17), .ref a]) rfl ?_
  refine zcl_sld (zdk (cc := code) (q := (1053, .iaload, 1)) tk_31 5 rfl) (fun x1 => ?_)
  refine zcl_Vi (rc := rc) (rs := rs) (mc := 0) (ms := 0) (As := [.int x1]) (S := []) vmX11_octet (mtX11_octet l e (by omega) a x1) q_1350 rfl rfl (Nat.le_of_ble_eq_true rfl) (zdk (cc := code) (q := (1054, .invokevirtual 146, 3)) tk_31 6 rfl) (fun y1 => ?_)
  refine zcl_p tk_31 7 5 (pc' := 1062) (L' := [(3, .int i), (2, .ref b), (1, .ref a), (0, .ref (zB + 17))]) (S' := [.int (i + 1), .ref (zB + 17), .ref b, .int y1]) rfl ?_
  refine zcl_sld (zdk (cc := code) (q := (1062, .iaload, 1)) tk_31 12 rfl) (fun w1 => ?_)
  refine zcl_Vi (rc := rc) (rs := rs) (mc := 0) (ms := 0) (As := [.int w1]) (S := [.int y1]) vmX12_octet (mtX12_octet l e (by omega) b w1) q_2271 rfl rfl (Nat.le_of_ble_eq_true rfl) (zdk (cc := code) (q := (1063, .invokevirtual 149, 3)) tk_31 13 rfl) (fun y2 => ?_)
  refine zcl_icmp_eq (tgt := 1107) (zdk (cc := code) (q := (1066, .if_icmp .eq 41, 3)) tk_31 14 rfl) rfl ?_ ?_
  · exact zcl_p tk_e 0 2 (pc' := 18) (L' := [(3, .int (i + 6)), (2, .ref b), (1, .ref a), (0, .ref (zB + 17))]) (S' := []) rfl (hr (i + 6))
  · refine zcl_p tk_31 15 1 (pc' := 1070) (L' := [(3, .int i), (2, .ref b), (1, .ref a), (0, .ref (zB + 17))]) (S' := [.int 0]) rfl ?_
    exact zcl_end rfl (zdk (cc := code) (q := (1070, .ireturn, 1)) tk_31 16 rfl)
set_option maxHeartbeats 2000000 in
set_option maxRecDepth 20000 in
theorem lw_w32 (l : Launch) (e : Nat) (he : 80 ≤ e) (rc rs n0 : Nat) (xs : Nat → Int32) (a b : Nat) (i : Int32) (r : Int32 → zM) (hr : ∀ i : Int32, zCl n0 xs l (e + 1) rc rs iLw 18 [(3, .int i), (2, .ref b), (1, .ref a), (0, .ref (zB + 17))] [] (r i)) : zCl n0 xs l (e + 1) rc rs iLw 1071 [(3, .int i), (2, .ref b), (1, .ref a), (0, .ref (zB + 17))] [] (lw_c32 n0 xs r a b i) := by
  unfold lw_c32
  refine zcl_p tk_32 0 1 (pc' := 1072) (L' := [(3, .int i), (2, .ref b), (1, .ref a), (0, .ref (zB + 17))]) (S' := [.ref a]) rfl ?_
  refine zcl_Vi (rc := rc) (rs := rs) (mc := 0) (ms := 0) (As := []) (S := []) vmX11_on (mtX11_on l e (by omega) a) q_1354 rfl rfl (Nat.le_of_ble_eq_true rfl) (zdk (cc := code) (q := (1072, .invokevirtual 150, 3)) tk_32 1 rfl) (fun y1 => ?_)
  refine zcl_p tk_32 2 1 (pc' := 1076) (L' := [(3, .int i), (2, .ref b), (1, .ref a), (0, .ref (zB + 17))]) (S' := [.ref b, .int y1]) rfl ?_
  refine zcl_Vi (rc := rc) (rs := rs) (mc := 0) (ms := 0) (As := []) (S := [.int y1]) vmX12_on (mtX12_on l e (by omega) b) q_2294 rfl rfl (Nat.le_of_ble_eq_true rfl) (zdk (cc := code) (q := (1076, .invokevirtual 153, 3)) tk_32 3 rfl) (fun y2 => ?_)
  refine zcl_icmp_eq (tgt := 1107) (zdk (cc := code) (q := (1079, .if_icmp .eq 28, 3)) tk_32 4 rfl) rfl ?_ ?_
  · exact zcl_p tk_e 0 2 (pc' := 18) (L' := [(3, .int (i + 6)), (2, .ref b), (1, .ref a), (0, .ref (zB + 17))]) (S' := []) rfl (hr (i + 6))
  · refine zcl_p tk_32 5 1 (pc' := 1083) (L' := [(3, .int i), (2, .ref b), (1, .ref a), (0, .ref (zB + 17))]) (S' := [.int 0]) rfl ?_
    exact zcl_end rfl (zdk (cc := code) (q := (1083, .ireturn, 1)) tk_32 6 rfl)
set_option maxHeartbeats 2000000 in
set_option maxRecDepth 20000 in
theorem lw_w33 (l : Launch) (e : Nat) (he : 80 ≤ e) (rc rs n0 : Nat) (xs : Nat → Int32) (a b : Nat) (i : Int32) (r : Int32 → zM) (hr : ∀ i : Int32, zCl n0 xs l (e + 1) rc rs iLw 18 [(3, .int i), (2, .ref b), (1, .ref a), (0, .ref (zB + 17))] [] (r i)) : zCl n0 xs l (e + 1) rc rs iLw 1084 [(3, .int i), (2, .ref b), (1, .ref a), (0, .ref (zB + 17))] [] (lw_c33 n0 xs r a b i) := by
  unfold lw_c33
  refine zcl_p tk_33 0 5 (pc' := 1089) (L' := [(3, .int i), (2, .ref b), (1, .ref a), (0, .ref (zB + 17))]) (S' := [.int (i + 1), .ref (zB + 17), .ref a]) rfl ?_
  refine zcl_sld (zdk (cc := code) (q := (1089, .iaload, 1)) tk_33 5 rfl) (fun x1 => ?_)
  refine zcl_Vi (rc := rc) (rs := rs) (mc := 0) (ms := 0) (As := [.int x1]) (S := []) vmX11_status (mtX11_status l e (by omega) a x1) q_1378 rfl rfl (Nat.le_of_ble_eq_true rfl) (zdk (cc := code) (q := (1090, .invokevirtual 154, 3)) tk_33 6 rfl) (fun y1 => ?_)
  refine zcl_p tk_33 7 5 (pc' := 1098) (L' := [(3, .int i), (2, .ref b), (1, .ref a), (0, .ref (zB + 17))]) (S' := [.int (i + 1), .ref (zB + 17), .ref b, .int y1]) rfl ?_
  refine zcl_sld (zdk (cc := code) (q := (1098, .iaload, 1)) tk_33 12 rfl) (fun w1 => ?_)
  refine zcl_Vi (rc := rc) (rs := rs) (mc := 0) (ms := 0) (As := [.int w1]) (S := [.int y1]) vmX12_status (mtX12_status l e (by omega) b w1) q_2275 rfl rfl (Nat.le_of_ble_eq_true rfl) (zdk (cc := code) (q := (1099, .invokevirtual 157, 3)) tk_33 13 rfl) (fun y2 => ?_)
  refine zcl_icmp_eq (tgt := 1107) (zdk (cc := code) (q := (1102, .if_icmp .eq 5, 3)) tk_33 14 rfl) rfl ?_ ?_
  · exact zcl_p tk_e 0 2 (pc' := 18) (L' := [(3, .int (i + 6)), (2, .ref b), (1, .ref a), (0, .ref (zB + 17))]) (S' := []) rfl (hr (i + 6))
  · refine zcl_p tk_33 15 1 (pc' := 1106) (L' := [(3, .int i), (2, .ref b), (1, .ref a), (0, .ref (zB + 17))]) (S' := [.int 0]) rfl ?_
    exact zcl_end rfl (zdk (cc := code) (q := (1106, .ireturn, 1)) tk_33 16 rfl)
set_option maxHeartbeats 2000000 in
set_option maxRecDepth 20000 in
theorem lw_turn (l : Launch) (e : Nat) (he : 80 ≤ e) (rc rs n0 : Nat) (xs : Nat → Int32) (a b : Nat) (r : Int32 → zM) (hr : ∀ i : Int32, zCl n0 xs l (e + 1) rc rs iLw 18 [(3, .int i), (2, .ref b), (1, .ref a), (0, .ref (zB + 17))] [] (r i)) (i : Int32) : zCl n0 xs l (e + 1) rc rs iLw 18 [(3, .int i), (2, .ref b), (1, .ref a), (0, .ref (zB + 17))] [] (lw_B n0 xs a b r i) := by
  unfold lw_B
  refine zcl_p tk_p 10 2 (pc' := 20) (L' := [(3, .int i), (2, .ref b), (1, .ref a), (0, .ref (zB + 17))]) (S' := [.ref (zB + 17), .int i]) rfl ?_
  refine zcl_slen (zdk (cc := code) (q := (20, .arraylength, 1)) tk_p 12 rfl) ?_
  refine zcl_p tk_p 13 2 (pc' := 24) (L' := [(3, .int i), (2, .ref b), (1, .ref a), (0, .ref (zB + 17))]) (S' := [.int (Int32.ofNat n0 - 6), .int i]) rfl ?_
  refine zcl_icmp_gt (tgt := 1113) (zdk (cc := code) (q := (24, .if_icmp .gt 1089, 3)) tk_p 15 rfl) rfl ?_ ?_
  · refine zcl_p tk_e 2 1 (pc' := 1114) (L' := [(3, .int i), (2, .ref b), (1, .ref a), (0, .ref (zB + 17))]) (S' := [.int 1]) rfl ?_
    exact zcl_end rfl (zdk (cc := code) (q := (1114, .ireturn, 1)) tk_e 3 rfl)
  · refine zcl_p tk_p 16 2 (pc' := 29) (L' := [(3, .int i), (2, .ref b), (1, .ref a), (0, .ref (zB + 17))]) (S' := [.int i, .ref (zB + 17)]) rfl ?_
    refine zcl_sld (zdk (cc := code) (q := (29, .iaload, 1)) tk_p 18 rfl) (fun x0 => ?_)
    refine zcl_p tk_p 19 2 (pc' := 33) (L' := [(3, .int i), (2, .ref b), (1, .ref a), (0, .ref (zB + 17))]) (S' := [.int (x0 &&& 63)]) rfl ?_
    refine @zcl_tab n0 xs l (e + 1) rc rs iLw 33 [(3, .int i), (2, .ref b), (1, .ref a), (0, .ref (zB + 17))] [] _ (x0 &&& 63) 1074 0 33 #[151, 214, 237, 250, 273, 296, 329, 362, 405, 438, 471, 494, 517, 540, 563, 596, 629, 662, 685, 698, 721, 754, 777, 800, 823, 866, 909, 952, 965, 988, 1002, 1015, 1038, 1051] 151 (zdk (cc := code) (q := (33, .tableswitch 1074 0 33 #[151, 214, 237, 250, 273, 296, 329, 362, 405, 438, 471, 494, 517, 540, 563, 596, 629, 662, 685, 698, 721, 754, 777, 800, 823, 866, 909, 952, 965, 988, 1002, 1015, 1038, 1051], 151)) tk_p 21 rfl) 1107 rfl [184, 247, 270, 283, 306, 329, 362, 395, 438, 471, 504, 527, 550, 573, 596, 629, 662, 695, 718, 731, 754, 787, 810, 833, 856, 899, 942, 985, 998, 1021, 1035, 1048, 1071, 1084] (lw_S n0 xs r a b i) (by decide) (by decide) ?_ (fun j t ht => ?_)
    · exact zcl_p tk_e 0 2 (pc' := 18) (L' := [(3, .int (i + 6)), (2, .ref b), (1, .ref a), (0, .ref (zB + 17))]) (S' := []) rfl (hr (i + 6))
    · match j, ht with
      | 0, ht => cases ht; exact lw_w0 l e he rc rs n0 xs a b i r hr
      | 1, ht => cases ht; exact lw_w1 l e he rc rs n0 xs a b i r hr
      | 2, ht => cases ht; exact lw_w2 l e he rc rs n0 xs a b i r hr
      | 3, ht => cases ht; exact lw_w3 l e he rc rs n0 xs a b i r hr
      | 4, ht => cases ht; exact lw_w4 l e he rc rs n0 xs a b i r hr
      | 5, ht => cases ht; exact lw_w5 l e he rc rs n0 xs a b i r hr
      | 6, ht => cases ht; exact lw_w6 l e he rc rs n0 xs a b i r hr
      | 7, ht => cases ht; exact lw_w7 l e he rc rs n0 xs a b i r hr
      | 8, ht => cases ht; exact lw_w8 l e he rc rs n0 xs a b i r hr
      | 9, ht => cases ht; exact lw_w9 l e he rc rs n0 xs a b i r hr
      | 10, ht => cases ht; exact lw_w10 l e he rc rs n0 xs a b i r hr
      | 11, ht => cases ht; exact lw_w11 l e he rc rs n0 xs a b i r hr
      | 12, ht => cases ht; exact lw_w12 l e he rc rs n0 xs a b i r hr
      | 13, ht => cases ht; exact lw_w13 l e he rc rs n0 xs a b i r hr
      | 14, ht => cases ht; exact lw_w14 l e he rc rs n0 xs a b i r hr
      | 15, ht => cases ht; exact lw_w15 l e he rc rs n0 xs a b i r hr
      | 16, ht => cases ht; exact lw_w16 l e he rc rs n0 xs a b i r hr
      | 17, ht => cases ht; exact lw_w17 l e he rc rs n0 xs a b i r hr
      | 18, ht => cases ht; exact lw_w18 l e he rc rs n0 xs a b i r hr
      | 19, ht => cases ht; exact lw_w19 l e he rc rs n0 xs a b i r hr
      | 20, ht => cases ht; exact lw_w20 l e he rc rs n0 xs a b i r hr
      | 21, ht => cases ht; exact lw_w21 l e he rc rs n0 xs a b i r hr
      | 22, ht => cases ht; exact lw_w22 l e he rc rs n0 xs a b i r hr
      | 23, ht => cases ht; exact lw_w23 l e he rc rs n0 xs a b i r hr
      | 24, ht => cases ht; exact lw_w24 l e he rc rs n0 xs a b i r hr
      | 25, ht => cases ht; exact lw_w25 l e he rc rs n0 xs a b i r hr
      | 26, ht => cases ht; exact lw_w26 l e he rc rs n0 xs a b i r hr
      | 27, ht => cases ht; exact lw_w27 l e he rc rs n0 xs a b i r hr
      | 28, ht => cases ht; exact lw_w28 l e he rc rs n0 xs a b i r hr
      | 29, ht => cases ht; exact lw_w29 l e he rc rs n0 xs a b i r hr
      | 30, ht => cases ht; exact lw_w30 l e he rc rs n0 xs a b i r hr
      | 31, ht => cases ht; exact lw_w31 l e he rc rs n0 xs a b i r hr
      | 32, ht => cases ht; exact lw_w32 l e he rc rs n0 xs a b i r hr
      | 33, ht => cases ht; exact lw_w33 l e he rc rs n0 xs a b i r hr
      | (k + 34), ht => simp at ht
set_option maxHeartbeats 2000000 in
set_option maxRecDepth 20000 in
theorem lw_go (l : Launch) (e : Nat) (he : 80 ≤ e) (rc rs n0 : Nat) (xs : Nat → Int32) : zCl n0 xs l (e + 1) (rc + 81 + 1 + 214 + 1) (rs + 18946 + 116 + 13634 + 20) iLw 0 [(0, .ref (zB + 17))] [] (lw_M n0 xs) := by
  unfold lw_M
  refine zcl_new (c := 11) rfl rfl dfX11 wl_k7 wl_i11 wl_n11 (zdk (cc := code) (q := (0, .new 7, 3)) tk_p 0 rfl) (fun a => ?_)
  refine zcl_p tk_p 1 1 (pc' := 4) (L' := [(0, .ref (zB + 17))]) (S' := [.ref a, .ref a]) rfl ?_
  refine zcl_I (mc := 214) (ms := 13634) (As := []) (S := [.ref a]) vmX11_init (mtX11_init l e (by omega) a) wl_m9 rfl rfl (Nat.le_of_ble_eq_true rfl) (zdk (cc := code) (q := (4, .invokespecial 9, 3)) tk_p 2 rfl) ?_
  refine zcl_p tk_p 3 1 (pc' := 8) (L' := [(1, .ref a), (0, .ref (zB + 17))]) (S' := []) rfl ?_
  refine zcl_new (c := 12) rfl rfl dfX12 wl_k10 wl_i12 wl_n12 (zdk (cc := code) (q := (8, .new 10, 3)) tk_p 4 rfl) (fun b => ?_)
  refine zcl_p tk_p 5 1 (pc' := 12) (L' := [(1, .ref a), (0, .ref (zB + 17))]) (S' := [.ref b, .ref b]) rfl ?_
  refine zcl_I (mc := 81) (ms := 18946) (As := []) (S := [.ref b]) vmX12_init (mtX12_init l e (by omega) b) wl_m12 rfl rfl (Nat.le_of_ble_eq_true rfl) (zdk (cc := code) (q := (12, .invokespecial 12, 3)) tk_p 6 rfl) ?_
  refine zcl_p tk_p 7 3 (pc' := 18) (L' := [(3, .int 0), (2, .ref b), (1, .ref a), (0, .ref (zB + 17))]) (S' := []) rfl ?_
  exact zcl_fix (Lf := fun i : Int32 => [(3, .int i), (2, .ref b), (1, .ref a), (0, .ref (zB + 17))]) (Sf := fun _ => []) (fun r hr i => lw_turn l e he rc rs n0 xs a b r hr i) zFU 0
end Bb6
