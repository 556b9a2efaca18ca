abbrev iX12_init : zI := (RX12, cX12_init, 1, (Option.none : Option FieldType), true)
def tX12_init_q0 : List (Nat × Instr × Nat) := [(0, .aload_n 0, 1), (1, .invokespecial 1, 3), (4, .aload_n 0, 1), (5, .sipush 1600, 3), (8, .newarray .int, 2), (10, .putfield 7, 3), (13, .aload_n 0, 1), (14, .iconst (-1), 1), (15, .putfield 13, 3), (18, .aload_n 0, 1), (19, .bipush 6, 2), (21, .newarray .int, 2), (23, .putfield 17, 3), (26, .aload_n 0, 1), (27, .iconst 4, 1), (28, .newarray .char, 2), (30, .dup, 1), (31, .iconst 0, 1), (32, .bipush 108, 2), (34, .castore, 1), (35, .dup, 1), (36, .iconst 1, 1), (37, .bipush 101, 2), (39, .castore, 1), (40, .dup, 1), (41, .iconst 2, 1), (42, .bipush 102, 2), (44, .castore, 1), (45, .dup, 1), (46, .iconst 3, 1), (47, .bipush 116, 2), (49, .castore, 1), (50, .putfield 20, 3), (53, .aload_n 0, 1), (54, .iconst 5, 1), (55, .newarray .char, 2), (57, .dup, 1), (58, .iconst 0, 1), (59, .bipush 114, 2), (61, .castore, 1), (62, .dup, 1), (63, .iconst 1, 1), (64, .bipush 105, 2), (66, .castore, 1), (67, .dup, 1), (68, .iconst 2, 1), (69, .bipush 103, 2), (71, .castore, 1), (72, .dup, 1), (73, .iconst 3, 1), (74, .bipush 104, 2), (76, .castore, 1), (77, .dup, 1), (78, .iconst 4, 1), (79, .bipush 116, 2), (81, .castore, 1), (82, .putfield 24, 3), (85, .aload_n 0, 1), (86, .iconst 4, 1), (87, .newarray .char, 2), (89, .dup, 1), (90, .iconst 0, 1), (91, .bipush 119, 2), (93, .castore, 1)]
set_option maxRecDepth 100000 in
theorem tkX12_init_q0 : ∀ q ∈ tX12_init_q0, decode cX12_init q.1 = .ok q.2 := by decide +kernel
def tX12_init_q1 : List (Nat × Instr × Nat) := [(94, .dup, 1), (95, .iconst 1, 1), (96, .bipush 97, 2), (98, .castore, 1), (99, .dup, 1), (100, .iconst 2, 1), (101, .bipush 114, 2), (103, .castore, 1), (104, .dup, 1), (105, .iconst 3, 1), (106, .bipush 109, 2), (108, .castore, 1), (109, .putfield 27, 3), (112, .aload_n 0, 1), (113, .iconst 4, 1), (114, .newarray .char, 2), (116, .dup, 1), (117, .iconst 0, 1), (118, .bipush 119, 2), (120, .castore, 1), (121, .dup, 1), (122, .iconst 1, 1), (123, .bipush 111, 2), (125, .castore, 1), (126, .dup, 1), (127, .iconst 2, 1), (128, .bipush 114, 2), (130, .castore, 1), (131, .dup, 1), (132, .iconst 3, 1), (133, .bipush 107, 2), (135, .castore, 1), (136, .putfield 30, 3), (139, .aload_n 0, 1), (140, .iconst 4, 1), (141, .newarray .char, 2), (143, .dup, 1), (144, .iconst 0, 1), (145, .bipush 115, 2), (147, .castore, 1), (148, .dup, 1), (149, .iconst 1, 1), (150, .bipush 105, 2), (152, .castore, 1), (153, .dup, 1), (154, .iconst 2, 1), (155, .bipush 122, 2), (157, .castore, 1), (158, .dup, 1), (159, .iconst 3, 1), (160, .bipush 101, 2), (162, .castore, 1), (163, .putfield 33, 3), (166, .aload_n 0, 1), (167, .iconst 3, 1), (168, .newarray .char, 2), (170, .dup, 1), (171, .iconst 0, 1), (172, .bipush 107, 2), (174, .castore, 1), (175, .dup, 1), (176, .iconst 1, 1), (177, .bipush 105, 2), (179, .castore, 1)]
set_option maxRecDepth 100000 in
theorem tkX12_init_q1 : ∀ q ∈ tX12_init_q1, decode cX12_init q.1 = .ok q.2 := by decide +kernel
def tX12_init_q2 : List (Nat × Instr × Nat) := [(180, .dup, 1), (181, .iconst 2, 1), (182, .bipush 110, 2), (184, .castore, 1), (185, .putfield 36, 3), (188, .aload_n 0, 1), (189, .iconst 5, 1), (190, .newarray .char, 2), (192, .dup, 1), (193, .iconst 0, 1), (194, .bipush 108, 2), (196, .castore, 1), (197, .dup, 1), (198, .iconst 1, 1), (199, .bipush 105, 2), (201, .castore, 1), (202, .dup, 1), (203, .iconst 2, 1), (204, .bipush 107, 2), (206, .castore, 1), (207, .dup, 1), (208, .iconst 3, 1), (209, .bipush 101, 2), (211, .castore, 1), (212, .dup, 1), (213, .iconst 4, 1), (214, .bipush 115, 2), (216, .castore, 1), (217, .putfield 39, 3), (220, .aload_n 0, 1), (221, .iconst 5, 1), (222, .newarray .char, 2), (224, .dup, 1), (225, .iconst 0, 1), (226, .bipush 107, 2), (228, .castore, 1), (229, .dup, 1), (230, .iconst 1, 1), (231, .bipush 110, 2), (233, .castore, 1), (234, .dup, 1), (235, .iconst 2, 1), (236, .bipush 111, 2), (238, .castore, 1), (239, .dup, 1), (240, .iconst 3, 1), (241, .bipush 119, 2), (243, .castore, 1), (244, .dup, 1), (245, .iconst 4, 1), (246, .bipush 115, 2), (248, .castore, 1), (249, .putfield 42, 3), (252, .aload_n 0, 1), (253, .bipush 6, 2), (255, .newarray .char, 2), (257, .dup, 1), (258, .iconst 0, 1), (259, .bipush 114, 2), (261, .castore, 1), (262, .dup, 1), (263, .iconst 1, 1), (264, .bipush 111, 2), (266, .castore, 1)]
set_option maxRecDepth 100000 in
theorem tkX12_init_q2 : ∀ q ∈ tX12_init_q2, decode cX12_init q.1 = .ok q.2 := by decide +kernel
def tX12_init_q3 : List (Nat × Instr × Nat) := [(267, .dup, 1), (268, .iconst 2, 1), (269, .bipush 117, 2), (271, .castore, 1), (272, .dup, 1), (273, .iconst 3, 1), (274, .bipush 110, 2), (276, .castore, 1), (277, .dup, 1), (278, .iconst 4, 1), (279, .bipush 100, 2), (281, .castore, 1), (282, .dup, 1), (283, .iconst 5, 1), (284, .bipush 115, 2), (286, .castore, 1), (287, .putfield 45, 3), (290, .aload_n 0, 1), (291, .iconst 5, 1), (292, .newarray .char, 2), (294, .dup, 1), (295, .iconst 0, 1), (296, .bipush 102, 2), (298, .castore, 1), (299, .dup, 1), (300, .iconst 1, 1), (301, .bipush 101, 2), (303, .castore, 1), (304, .dup, 1), (305, .iconst 2, 1), (306, .bipush 101, 2), (308, .castore, 1), (309, .dup, 1), (310, .iconst 3, 1), (311, .bipush 108, 2), (313, .castore, 1), (314, .dup, 1), (315, .iconst 4, 1), (316, .bipush 115, 2), (318, .castore, 1), (319, .putfield 48, 3), (322, .aload_n 0, 1), (323, .iconst 4, 1), (324, .newarray .char, 2), (326, .dup, 1), (327, .iconst 0, 1), (328, .bipush 108, 2), (330, .castore, 1), (331, .dup, 1), (332, .iconst 1, 1), (333, .bipush 101, 2), (335, .castore, 1), (336, .dup, 1), (337, .iconst 2, 1), (338, .bipush 116, 2), (340, .castore, 1), (341, .dup, 1), (342, .iconst 3, 1), (343, .bipush 115, 2), (345, .castore, 1), (346, .putfield 51, 3), (349, .aload_n 0, 1), (350, .bipush 6, 2), (352, .newarray .char, 2)]
set_option maxRecDepth 100000 in
theorem tkX12_init_q3 : ∀ q ∈ tX12_init_q3, decode cX12_init q.1 = .ok q.2 := by decide +kernel
def tX12_init_q4 : List (Nat × Instr × Nat) := [(354, .dup, 1), (355, .iconst 0, 1), (356, .bipush 108, 2), (358, .castore, 1), (359, .dup, 1), (360, .iconst 1, 1), (361, .bipush 101, 2), (363, .castore, 1), (364, .dup, 1), (365, .iconst 2, 1), (366, .bipush 97, 2), (368, .castore, 1), (369, .dup, 1), (370, .iconst 3, 1), (371, .bipush 114, 2), (373, .castore, 1), (374, .dup, 1), (375, .iconst 4, 1), (376, .bipush 110, 2), (378, .castore, 1), (379, .dup, 1), (380, .iconst 5, 1), (381, .bipush 115, 2), (383, .castore, 1), (384, .putfield 54, 3), (387, .aload_n 0, 1), (388, .iconst 4, 1), (389, .newarray .char, 2), (391, .dup, 1), (392, .iconst 0, 1), (393, .bipush 115, 2), (395, .castore, 1), (396, .dup, 1), (397, .iconst 1, 1), (398, .bipush 108, 2), (400, .castore, 1), (401, .dup, 1), (402, .iconst 2, 1), (403, .bipush 105, 2), (405, .castore, 1), (406, .dup, 1), (407, .iconst 3, 1), (408, .bipush 112, 2), (410, .castore, 1), (411, .putfield 57, 3), (414, .aload_n 0, 1), (415, .bipush 6, 2), (417, .newarray .char, 2), (419, .dup, 1), (420, .iconst 0, 1), (421, .bipush 108, 2), (423, .castore, 1), (424, .dup, 1), (425, .iconst 1, 1), (426, .bipush 105, 2), (428, .castore, 1), (429, .dup, 1), (430, .iconst 2, 1), (431, .bipush 107, 2), (433, .castore, 1), (434, .dup, 1), (435, .iconst 3, 1), (436, .bipush 105, 2), (438, .castore, 1)]
set_option maxRecDepth 100000 in
theorem tkX12_init_q4 : ∀ q ∈ tX12_init_q4, decode cX12_init q.1 = .ok q.2 := by decide +kernel
def tX12_init_q5 : List (Nat × Instr × Nat) := [(439, .dup, 1), (440, .iconst 4, 1), (441, .bipush 110, 2), (443, .castore, 1), (444, .dup, 1), (445, .iconst 5, 1), (446, .bipush 103, 2), (448, .castore, 1), (449, .putfield 60, 3), (452, .aload_n 0, 1), (453, .iconst 5, 1), (454, .newarray .char, 2), (456, .dup, 1), (457, .iconst 0, 1), (458, .bipush 107, 2), (460, .castore, 1), (461, .dup, 1), (462, .iconst 1, 1), (463, .bipush 110, 2), (465, .castore, 1), (466, .dup, 1), (467, .iconst 2, 1), (468, .bipush 111, 2), (470, .castore, 1), (471, .dup, 1), (472, .iconst 3, 1), (473, .bipush 119, 2), (475, .castore, 1), (476, .dup, 1), (477, .iconst 4, 1), (478, .bipush 110, 2), (480, .castore, 1), (481, .putfield 63, 3), (484, .aload_n 0, 1), (485, .iconst 4, 1), (486, .newarray .char, 2), (488, .dup, 1), (489, .iconst 0, 1), (490, .bipush 102, 2), (492, .castore, 1), (493, .dup, 1), (494, .iconst 1, 1), (495, .bipush 101, 2), (497, .castore, 1), (498, .dup, 1), (499, .iconst 2, 1), (500, .bipush 101, 2), (502, .castore, 1), (503, .dup, 1), (504, .iconst 3, 1), (505, .bipush 108, 2), (507, .castore, 1), (508, .putfield 66, 3), (511, .aload_n 0, 1), (512, .iconst 5, 1), (513, .newarray .char, 2), (515, .dup, 1), (516, .iconst 0, 1), (517, .bipush 114, 2), (519, .castore, 1), (520, .dup, 1), (521, .iconst 1, 1), (522, .bipush 111, 2), (524, .castore, 1)]
set_option maxRecDepth 100000 in
theorem tkX12_init_q5 : ∀ q ∈ tX12_init_q5, decode cX12_init q.1 = .ok q.2 := by decide +kernel
def tX12_init_q6 : List (Nat × Instr × Nat) := [(525, .dup, 1), (526, .iconst 2, 1), (527, .bipush 117, 2), (529, .castore, 1), (530, .dup, 1), (531, .iconst 3, 1), (532, .bipush 110, 2), (534, .castore, 1), (535, .dup, 1), (536, .iconst 4, 1), (537, .bipush 100, 2), (539, .castore, 1), (540, .putfield 69, 3), (543, .aload_n 0, 1), (544, .bipush 6, 2), (546, .newarray .char, 2), (548, .dup, 1), (549, .iconst 0, 1), (550, .bipush 115, 2), (552, .castore, 1), (553, .dup, 1), (554, .iconst 1, 1), (555, .bipush 112, 2), (557, .castore, 1), (558, .dup, 1), (559, .iconst 2, 1), (560, .bipush 114, 2), (562, .castore, 1), (563, .dup, 1), (564, .iconst 3, 1), (565, .bipush 105, 2), (567, .castore, 1), (568, .dup, 1), (569, .iconst 4, 1), (570, .bipush 110, 2), (572, .castore, 1), (573, .dup, 1), (574, .iconst 5, 1), (575, .bipush 103, 2), (577, .castore, 1), (578, .putfield 72, 3), (581, .aload_n 0, 1), (582, .bipush 6, 2), (584, .newarray .char, 2), (586, .dup, 1), (587, .iconst 0, 1), (588, .bipush 119, 2), (590, .castore, 1), (591, .dup, 1), (592, .iconst 1, 1), (593, .bipush 97, 2), (595, .castore, 1), (596, .dup, 1), (597, .iconst 2, 1), (598, .bipush 105, 2), (600, .castore, 1), (601, .dup, 1), (602, .iconst 3, 1), (603, .bipush 116, 2), (605, .castore, 1), (606, .dup, 1), (607, .iconst 4, 1), (608, .bipush 101, 2), (610, .castore, 1)]
set_option maxRecDepth 100000 in
theorem tkX12_init_q6 : ∀ q ∈ tX12_init_q6, decode cX12_init q.1 = .ok q.2 := by decide +kernel
def tX12_init_q7 : List (Nat × Instr × Nat) := [(611, .dup, 1), (612, .iconst 5, 1), (613, .bipush 100, 2), (615, .castore, 1), (616, .putfield 75, 3), (619, .aload_n 0, 1), (620, .bipush 6, 2), (622, .newarray .char, 2), (624, .dup, 1), (625, .iconst 0, 1), (626, .bipush 110, 2), (628, .castore, 1), (629, .dup, 1), (630, .iconst 1, 1), (631, .bipush 117, 2), (633, .castore, 1), (634, .dup, 1), (635, .iconst 2, 1), (636, .bipush 109, 2), (638, .castore, 1), (639, .dup, 1), (640, .iconst 3, 1), (641, .bipush 98, 2), (643, .castore, 1), (644, .dup, 1), (645, .iconst 4, 1), (646, .bipush 101, 2), (648, .castore, 1), (649, .dup, 1), (650, .iconst 5, 1), (651, .bipush 114, 2), (653, .castore, 1), (654, .putfield 78, 3), (657, .aload_n 0, 1), (658, .iconst 4, 1), (659, .newarray .char, 2), (661, .dup, 1), (662, .iconst 0, 1), (663, .bipush 115, 2), (665, .castore, 1), (666, .dup, 1), (667, .iconst 1, 1), (668, .bipush 105, 2), (670, .castore, 1), (671, .dup, 1), (672, .iconst 2, 1), (673, .bipush 100, 2), (675, .castore, 1), (676, .dup, 1), (677, .iconst 3, 1), (678, .bipush 101, 2), (680, .castore, 1), (681, .putfield 81, 3), (684, .aload_n 0, 1), (685, .iconst 3, 1), (686, .newarray .char, 2), (688, .dup, 1), (689, .iconst 0, 1), (690, .bipush 119, 2), (692, .castore, 1), (693, .dup, 1), (694, .iconst 1, 1), (695, .bipush 101, 2), (697, .castore, 1)]
set_option maxRecDepth 100000 in
theorem tkX12_init_q7 : ∀ q ∈ tX12_init_q7, decode cX12_init q.1 = .ok q.2 := by decide +kernel
def tX12_init_q8 : List (Nat × Instr × Nat) := [(698, .dup, 1), (699, .iconst 2, 1), (700, .bipush 100, 2), (702, .castore, 1), (703, .putfield 84, 3), (706, .aload_n 0, 1), (707, .iconst 2, 1), (708, .newarray .char, 2), (710, .dup, 1), (711, .iconst 0, 1), (712, .bipush 111, 2), (714, .castore, 1), (715, .dup, 1), (716, .iconst 1, 1), (717, .bipush 114, 2), (719, .castore, 1), (720, .putfield 87, 3), (723, .aload_n 0, 1), (724, .iconst 3, 1), (725, .newarray .char, 2), (727, .dup, 1), (728, .iconst 0, 1), (729, .bipush 97, 2), (731, .castore, 1), (732, .dup, 1), (733, .iconst 1, 1), (734, .bipush 110, 2), (736, .castore, 1), (737, .dup, 1), (738, .iconst 2, 1), (739, .bipush 100, 2), (741, .castore, 1), (742, .putfield 90, 3), (745, .aload_n 0, 1), (746, .iconst 3, 1), (747, .newarray .char, 2), (749, .dup, 1), (750, .iconst 0, 1), (751, .bipush 110, 2), (753, .castore, 1), (754, .dup, 1), (755, .iconst 1, 1), (756, .bipush 111, 2), (758, .castore, 1), (759, .dup, 1), (760, .iconst 2, 1), (761, .bipush 116, 2), (763, .castore, 1), (764, .putfield 93, 3), (767, .aload_n 0, 1), (768, .iconst 3, 1), (769, .newarray .char, 2), (771, .dup, 1), (772, .iconst 0, 1), (773, .bipush 97, 2), (775, .castore, 1), (776, .dup, 1), (777, .iconst 1, 1), (778, .bipush 108, 2), (780, .castore, 1), (781, .dup, 1), (782, .iconst 2, 1), (783, .bipush 108, 2), (785, .castore, 1)]
set_option maxRecDepth 100000 in
theorem tkX12_init_q8 : ∀ q ∈ tX12_init_q8, decode cX12_init q.1 = .ok q.2 := by decide +kernel
def tX12_init_q9 : List (Nat × Instr × Nat) := [(786, .putfield 96, 3), (789, .aload_n 0, 1), (790, .iconst 3, 1), (791, .newarray .char, 2), (793, .dup, 1), (794, .iconst 0, 1), (795, .bipush 109, 2), (797, .castore, 1), (798, .dup, 1), (799, .iconst 1, 1), (800, .bipush 105, 2), (802, .castore, 1), (803, .dup, 1), (804, .iconst 2, 1), (805, .bipush 110, 2), (807, .castore, 1), (808, .putfield 99, 3), (811, .aload_n 0, 1), (812, .iconst 3, 1), (813, .newarray .char, 2), (815, .dup, 1), (816, .iconst 0, 1), (817, .bipush 109, 2), (819, .castore, 1), (820, .dup, 1), (821, .iconst 1, 1), (822, .bipush 97, 2), (824, .castore, 1), (825, .dup, 1), (826, .iconst 2, 1), (827, .bipush 120, 2), (829, .castore, 1), (830, .putfield 102, 3), (833, .aload_n 0, 1), (834, .bipush 12, 2), (836, .newarray .int, 2), (838, .putfield 105, 3), (841, .aload_n 0, 1), (842, .bipush 24, 2), (844, .newarray .long, 2), (846, .putfield 108, 3), (849, .aload_n 0, 1), (850, .bipush 72, 2), (852, .newarray .int, 2), (854, .putfield 112, 3), (857, .aload_n 0, 1), (858, .bipush 72, 2), (860, .newarray .boolean, 2), (862, .putfield 115, 3), (865, .aload_n 0, 1), (866, .bipush 72, 2), (868, .newarray .int, 2), (870, .putfield 119, 3), (873, .aload_n 0, 1), (874, .bipush 72, 2), (876, .newarray .int, 2), (878, .putfield 122, 3), (881, .aload_n 0, 1), (882, .bipush 6, 2), (884, .newarray .int, 2), (886, .dup, 1), (887, .iconst 0, 1), (888, .iconst (-1), 1), (889, .iastore, 1)]
set_option maxRecDepth 100000 in
theorem tkX12_init_q9 : ∀ q ∈ tX12_init_q9, decode cX12_init q.1 = .ok q.2 := by decide +kernel
def tX12_init_q10 : List (Nat × Instr × Nat) := [(890, .dup, 1), (891, .iconst 1, 1), (892, .iconst (-1), 1), (893, .iastore, 1), (894, .dup, 1), (895, .iconst 2, 1), (896, .iconst (-1), 1), (897, .iastore, 1), (898, .dup, 1), (899, .iconst 3, 1), (900, .iconst (-1), 1), (901, .iastore, 1), (902, .dup, 1), (903, .iconst 4, 1), (904, .iconst (-1), 1), (905, .iastore, 1), (906, .dup, 1), (907, .iconst 5, 1), (908, .iconst (-1), 1), (909, .iastore, 1), (910, .putfield 125, 3), (913, .aload_n 0, 1), (914, .bipush 6, 2), (916, .newarray .int, 2), (918, .putfield 128, 3), (921, .aload_n 0, 1), (922, .sipush 3200, 3), (925, .newarray .int, 2), (927, .putfield 131, 3), (930, .aload_n 0, 1), (931, .sipush 343, 3), (934, .newarray .int, 2), (936, .putfield 134, 3), (939, .aload_n 0, 1), (940, .iconst (-1), 1), (941, .putfield 137, 3), (944, .aload_n 0, 1), (945, .bipush 12, 2), (947, .newarray .int, 2), (949, .putfield 140, 3), (952, .aload_n 0, 1), (953, .bipush 12, 2), (955, .newarray .int, 2), (957, .putfield 143, 3), (960, .aload_n 0, 1), (961, .sipush 182, 3), (964, .newarray .int, 2), (966, .putfield 146, 3), (969, .aload_n 0, 1), (970, .bipush 12, 2), (972, .newarray .boolean, 2), (974, .putfield 149, 3), (977, .aload_n 0, 1), (978, .bipush 12, 2), (980, .newarray .int, 2), (982, .putfield 152, 3), (985, .aload_n 0, 1), (986, .sipush 448, 3), (989, .newarray .int, 2), (991, .putfield 155, 3), (994, .aload_n 0, 1), (995, .bipush 12, 2), (997, .newarray .int, 2), (999, .putfield 158, 3)]
set_option maxRecDepth 100000 in
theorem tkX12_init_q10 : ∀ q ∈ tX12_init_q10, decode cX12_init q.1 = .ok q.2 := by decide +kernel
def tX12_init_q11 : List (Nat × Instr × Nat) := [(1002, .aload_n 0, 1), (1003, .bipush 36, 2), (1005, .newarray .boolean, 2), (1007, .putfield 161, 3), (1010, .aload_n 0, 1), (1011, .bipush 48, 2), (1013, .newarray .int, 2), (1015, .putfield 164, 3), (1018, .aload_n 0, 1), (1019, .sipush 310, 3), (1022, .newarray .int, 2), (1024, .putfield 167, 3), (1027, .aload_n 0, 1), (1028, .sipush 6860, 3), (1031, .newarray .int, 2), (1033, .putfield 170, 3), (1036, .aload_n 0, 1), (1037, .lconst 1, 1), (1038, .putfield 173, 3), (1041, .aload_n 0, 1), (1042, .iconst 5, 1), (1043, .newarray .char, 2), (1045, .dup, 1), (1046, .iconst 0, 1), (1047, .bipush 102, 2), (1049, .castore, 1), (1050, .dup, 1), (1051, .iconst 1, 1), (1052, .bipush 105, 2), (1054, .castore, 1), (1055, .dup, 1), (1056, .iconst 2, 1), (1057, .bipush 114, 2), (1059, .castore, 1), (1060, .dup, 1), (1061, .iconst 3, 1), (1062, .bipush 115, 2), (1064, .castore, 1), (1065, .dup, 1), (1066, .iconst 4, 1), (1067, .bipush 116, 2), (1069, .castore, 1), (1070, .putfield 177, 3), (1073, .aload_n 0, 1), (1074, .iconst 4, 1), (1075, .newarray .char, 2), (1077, .dup, 1), (1078, .iconst 0, 1), (1079, .bipush 108, 2), (1081, .castore, 1), (1082, .dup, 1), (1083, .iconst 1, 1), (1084, .bipush 97, 2), (1086, .castore, 1), (1087, .dup, 1), (1088, .iconst 2, 1), (1089, .bipush 115, 2), (1091, .castore, 1), (1092, .dup, 1), (1093, .iconst 3, 1), (1094, .bipush 116, 2), (1096, .castore, 1), (1097, .putfield 180, 3), (1100, .aload_n 0, 1)]
set_option maxRecDepth 100000 in
theorem tkX12_init_q11 : ∀ q ∈ tX12_init_q11, decode cX12_init q.1 = .ok q.2 := by decide +kernel
def tX12_init_q12 : List (Nat × Instr × Nat) := [(1101, .iconst 5, 1), (1102, .newarray .char, 2), (1104, .dup, 1), (1105, .iconst 0, 1), (1106, .bipush 111, 2), (1108, .castore, 1), (1109, .dup, 1), (1110, .iconst 1, 1), (1111, .bipush 102, 2), (1113, .castore, 1), (1114, .dup, 1), (1115, .iconst 2, 1), (1116, .bipush 116, 2), (1118, .castore, 1), (1119, .dup, 1), (1120, .iconst 3, 1), (1121, .bipush 101, 2), (1123, .castore, 1), (1124, .dup, 1), (1125, .iconst 4, 1), (1126, .bipush 110, 2), (1128, .castore, 1), (1129, .putfield 183, 3), (1132, .aload_n 0, 1), (1133, .iconst 5, 1), (1134, .newarray .char, 2), (1136, .dup, 1), (1137, .iconst 0, 1), (1138, .bipush 116, 2), (1140, .castore, 1), (1141, .dup, 1), (1142, .iconst 1, 1), (1143, .bipush 111, 2), (1145, .castore, 1), (1146, .dup, 1), (1147, .iconst 2, 1), (1148, .bipush 116, 2), (1150, .castore, 1), (1151, .dup, 1), (1152, .iconst 3, 1), (1153, .bipush 97, 2), (1155, .castore, 1), (1156, .dup, 1), (1157, .iconst 4, 1), (1158, .bipush 108, 2), (1160, .castore, 1), (1161, .putfield 186, 3), (1164, .aload_n 0, 1), (1165, .iconst 4, 1), (1166, .newarray .char, 2), (1168, .dup, 1), (1169, .iconst 0, 1), (1170, .bipush 109, 2), (1172, .castore, 1), (1173, .dup, 1), (1174, .iconst 1, 1), (1175, .bipush 111, 2), (1177, .castore, 1), (1178, .dup, 1), (1179, .iconst 2, 1), (1180, .bipush 115, 2), (1182, .castore, 1), (1183, .dup, 1), (1184, .iconst 3, 1)]
set_option maxRecDepth 100000 in
theorem tkX12_init_q12 : ∀ q ∈ tX12_init_q12, decode cX12_init q.1 = .ok q.2 := by decide +kernel
def tX12_init_q13 : List (Nat × Instr × Nat) := [(1185, .bipush 116, 2), (1187, .castore, 1), (1188, .putfield 189, 3), (1191, .aload_n 0, 1), (1192, .iconst 5, 1), (1193, .newarray .char, 2), (1195, .dup, 1), (1196, .iconst 0, 1), (1197, .bipush 108, 2), (1199, .castore, 1), (1200, .dup, 1), (1201, .iconst 1, 1), (1202, .bipush 101, 2), (1204, .castore, 1), (1205, .dup, 1), (1206, .iconst 2, 1), (1207, .bipush 97, 2), (1209, .castore, 1), (1210, .dup, 1), (1211, .iconst 3, 1), (1212, .bipush 115, 2), (1214, .castore, 1), (1215, .dup, 1), (1216, .iconst 4, 1), (1217, .bipush 116, 2), (1219, .castore, 1), (1220, .putfield 192, 3), (1223, .aload_n 0, 1), (1224, .iconst 3, 1), (1225, .newarray .char, 2), (1227, .dup, 1), (1228, .iconst 0, 1), (1229, .bipush 110, 2), (1231, .castore, 1), (1232, .dup, 1), (1233, .iconst 1, 1), (1234, .bipush 111, 2), (1236, .castore, 1), (1237, .dup, 1), (1238, .iconst 2, 1), (1239, .bipush 116, 2), (1241, .castore, 1), (1242, .putfield 195, 3), (1245, .aload_n 0, 1), (1246, .iconst 3, 1), (1247, .newarray .char, 2), (1249, .dup, 1), (1250, .iconst 0, 1), (1251, .bipush 97, 2), (1253, .castore, 1), (1254, .dup, 1), (1255, .iconst 1, 1), (1256, .bipush 110, 2), (1258, .castore, 1), (1259, .dup, 1), (1260, .iconst 2, 1), (1261, .bipush 100, 2), (1263, .castore, 1), (1264, .putfield 198, 3), (1267, .aload_n 0, 1), (1268, .iconst 2, 1), (1269, .newarray .char, 2), (1271, .dup, 1), (1272, .iconst 0, 1)]
set_option maxRecDepth 100000 in
theorem tkX12_init_q13 : ∀ q ∈ tX12_init_q13, decode cX12_init q.1 = .ok q.2 := by decide +kernel
def tX12_init_q14 : List (Nat × Instr × Nat) := [(1273, .bipush 111, 2), (1275, .castore, 1), (1276, .dup, 1), (1277, .iconst 1, 1), (1278, .bipush 114, 2), (1280, .castore, 1), (1281, .putfield 201, 3), (1284, .aload_n 0, 1), (1285, .iconst 3, 1), (1286, .newarray .char, 2), (1288, .dup, 1), (1289, .iconst 0, 1), (1290, .bipush 97, 2), (1292, .castore, 1), (1293, .dup, 1), (1294, .iconst 1, 1), (1295, .bipush 108, 2), (1297, .castore, 1), (1298, .dup, 1), (1299, .iconst 2, 1), (1300, .bipush 108, 2), (1302, .castore, 1), (1303, .putfield 204, 3), (1306, .aload_n 0, 1), (1307, .iconst 3, 1), (1308, .newarray .char, 2), (1310, .dup, 1), (1311, .iconst 0, 1), (1312, .bipush 109, 2), (1314, .castore, 1), (1315, .dup, 1), (1316, .iconst 1, 1), (1317, .bipush 105, 2), (1319, .castore, 1), (1320, .dup, 1), (1321, .iconst 2, 1), (1322, .bipush 110, 2), (1324, .castore, 1), (1325, .putfield 207, 3), (1328, .aload_n 0, 1), (1329, .iconst 3, 1), (1330, .newarray .char, 2), (1332, .dup, 1), (1333, .iconst 0, 1), (1334, .bipush 109, 2), (1336, .castore, 1), (1337, .dup, 1), (1338, .iconst 1, 1), (1339, .bipush 97, 2), (1341, .castore, 1), (1342, .dup, 1), (1343, .iconst 2, 1), (1344, .bipush 120, 2), (1346, .castore, 1), (1347, .putfield 210, 3), (1350, .aload_n 0, 1), (1351, .iconst 5, 1), (1352, .newarray .char, 2), (1354, .dup, 1), (1355, .iconst 0, 1), (1356, .bipush 107, 2), (1358, .castore, 1), (1359, .dup, 1), (1360, .iconst 1, 1)]
set_option maxRecDepth 100000 in
theorem tkX12_init_q14 : ∀ q ∈ tX12_init_q14, decode cX12_init q.1 = .ok q.2 := by decide +kernel
def tX12_init_q15 : List (Nat × Instr × Nat) := [(1361, .bipush 110, 2), (1363, .castore, 1), (1364, .dup, 1), (1365, .iconst 2, 1), (1366, .bipush 111, 2), (1368, .castore, 1), (1369, .dup, 1), (1370, .iconst 3, 1), (1371, .bipush 119, 2), (1373, .castore, 1), (1374, .dup, 1), (1375, .iconst 4, 1), (1376, .bipush 110, 2), (1378, .castore, 1), (1379, .putfield 213, 3), (1382, .aload_n 0, 1), (1383, .bipush 6, 2), (1385, .newarray .char, 2), (1387, .dup, 1), (1388, .iconst 0, 1), (1389, .bipush 115, 2), (1391, .castore, 1), (1392, .dup, 1), (1393, .iconst 1, 1), (1394, .bipush 112, 2), (1396, .castore, 1), (1397, .dup, 1), (1398, .iconst 2, 1), (1399, .bipush 114, 2), (1401, .castore, 1), (1402, .dup, 1), (1403, .iconst 3, 1), (1404, .bipush 105, 2), (1406, .castore, 1), (1407, .dup, 1), (1408, .iconst 4, 1), (1409, .bipush 110, 2), (1411, .castore, 1), (1412, .dup, 1), (1413, .iconst 5, 1), (1414, .bipush 103, 2), (1416, .castore, 1), (1417, .putfield 216, 3), (1420, .aload_n 0, 1), (1421, .iconst 4, 1), (1422, .newarray .char, 2), (1424, .dup, 1), (1425, .iconst 0, 1), (1426, .bipush 119, 2), (1428, .castore, 1), (1429, .dup, 1), (1430, .iconst 1, 1), (1431, .bipush 97, 2), (1433, .castore, 1), (1434, .dup, 1), (1435, .iconst 2, 1), (1436, .bipush 114, 2), (1438, .castore, 1), (1439, .dup, 1), (1440, .iconst 3, 1), (1441, .bipush 109, 2), (1443, .castore, 1), (1444, .putfield 219, 3), (1447, .aload_n 0, 1)]
set_option maxRecDepth 100000 in
theorem tkX12_init_q15 : ∀ q ∈ tX12_init_q15, decode cX12_init q.1 = .ok q.2 := by decide +kernel
def tX12_init_q16 : List (Nat × Instr × Nat) := [(1448, .iconst 4, 1), (1449, .newarray .char, 2), (1451, .dup, 1), (1452, .iconst 0, 1), (1453, .bipush 119, 2), (1455, .castore, 1), (1456, .dup, 1), (1457, .iconst 1, 1), (1458, .bipush 111, 2), (1460, .castore, 1), (1461, .dup, 1), (1462, .iconst 2, 1), (1463, .bipush 114, 2), (1465, .castore, 1), (1466, .dup, 1), (1467, .iconst 3, 1), (1468, .bipush 107, 2), (1470, .castore, 1), (1471, .putfield 222, 3), (1474, .aload_n 0, 1), (1475, .iconst 4, 1), (1476, .newarray .char, 2), (1478, .dup, 1), (1479, .iconst 0, 1), (1480, .bipush 115, 2), (1482, .castore, 1), (1483, .dup, 1), (1484, .iconst 1, 1), (1485, .bipush 105, 2), (1487, .castore, 1), (1488, .dup, 1), (1489, .iconst 2, 1), (1490, .bipush 122, 2), (1492, .castore, 1), (1493, .dup, 1), (1494, .iconst 3, 1), (1495, .bipush 101, 2), (1497, .castore, 1), (1498, .putfield 225, 3), (1501, .aload_n 0, 1), (1502, .bipush 6, 2), (1504, .newarray .char, 2), (1506, .dup, 1), (1507, .iconst 0, 1), (1508, .bipush 108, 2), (1510, .castore, 1), (1511, .dup, 1), (1512, .iconst 1, 1), (1513, .bipush 105, 2), (1515, .castore, 1), (1516, .dup, 1), (1517, .iconst 2, 1), (1518, .bipush 107, 2), (1520, .castore, 1), (1521, .dup, 1), (1522, .iconst 3, 1), (1523, .bipush 105, 2), (1525, .castore, 1), (1526, .dup, 1), (1527, .iconst 4, 1), (1528, .bipush 110, 2), (1530, .castore, 1), (1531, .dup, 1), (1532, .iconst 5, 1)]
set_option maxRecDepth 100000 in
theorem tkX12_init_q16 : ∀ q ∈ tX12_init_q16, decode cX12_init q.1 = .ok q.2 := by decide +kernel
def tX12_init_q17 : List (Nat × Instr × Nat) := [(1533, .bipush 103, 2), (1535, .castore, 1), (1536, .putfield 228, 3), (1539, .aload_n 0, 1), (1540, .iconst 4, 1), (1541, .newarray .char, 2), (1543, .dup, 1), (1544, .iconst 0, 1), (1545, .bipush 102, 2), (1547, .castore, 1), (1548, .dup, 1), (1549, .iconst 1, 1), (1550, .bipush 101, 2), (1552, .castore, 1), (1553, .dup, 1), (1554, .iconst 2, 1), (1555, .bipush 101, 2), (1557, .castore, 1), (1558, .dup, 1), (1559, .iconst 3, 1), (1560, .bipush 108, 2), (1562, .castore, 1), (1563, .putfield 231, 3), (1566, .aload_n 0, 1), (1567, .iconst 5, 1), (1568, .newarray .char, 2), (1570, .dup, 1), (1571, .iconst 0, 1), (1572, .bipush 114, 2), (1574, .castore, 1), (1575, .dup, 1), (1576, .iconst 1, 1), (1577, .bipush 111, 2), (1579, .castore, 1), (1580, .dup, 1), (1581, .iconst 2, 1), (1582, .bipush 117, 2), (1584, .castore, 1), (1585, .dup, 1), (1586, .iconst 3, 1), (1587, .bipush 110, 2), (1589, .castore, 1), (1590, .dup, 1), (1591, .iconst 4, 1), (1592, .bipush 100, 2), (1594, .castore, 1), (1595, .putfield 234, 3), (1598, .aload_n 0, 1), (1599, .bipush 6, 2), (1601, .newarray .char, 2), (1603, .dup, 1), (1604, .iconst 0, 1), (1605, .bipush 119, 2), (1607, .castore, 1), (1608, .dup, 1), (1609, .iconst 1, 1), (1610, .bipush 97, 2), (1612, .castore, 1), (1613, .dup, 1), (1614, .iconst 2, 1), (1615, .bipush 105, 2), (1617, .castore, 1), (1618, .dup, 1), (1619, .iconst 3, 1)]
set_option maxRecDepth 100000 in
theorem tkX12_init_q17 : ∀ q ∈ tX12_init_q17, decode cX12_init q.1 = .ok q.2 := by decide +kernel
def tX12_init_q18 : List (Nat × Instr × Nat) := [(1620, .bipush 116, 2), (1622, .castore, 1), (1623, .dup, 1), (1624, .iconst 4, 1), (1625, .bipush 101, 2), (1627, .castore, 1), (1628, .dup, 1), (1629, .iconst 5, 1), (1630, .bipush 100, 2), (1632, .castore, 1), (1633, .putfield 237, 3), (1636, .aload_n 0, 1), (1637, .bipush 6, 2), (1639, .newarray .char, 2), (1641, .dup, 1), (1642, .iconst 0, 1), (1643, .bipush 110, 2), (1645, .castore, 1), (1646, .dup, 1), (1647, .iconst 1, 1), (1648, .bipush 117, 2), (1650, .castore, 1), (1651, .dup, 1), (1652, .iconst 2, 1), (1653, .bipush 109, 2), (1655, .castore, 1), (1656, .dup, 1), (1657, .iconst 3, 1), (1658, .bipush 98, 2), (1660, .castore, 1), (1661, .dup, 1), (1662, .iconst 4, 1), (1663, .bipush 101, 2), (1665, .castore, 1), (1666, .dup, 1), (1667, .iconst 5, 1), (1668, .bipush 114, 2), (1670, .castore, 1), (1671, .putfield 240, 3), (1674, .aload_n 0, 1), (1675, .iconst 4, 1), (1676, .newarray .char, 2), (1678, .dup, 1), (1679, .iconst 0, 1), (1680, .bipush 115, 2), (1682, .castore, 1), (1683, .dup, 1), (1684, .iconst 1, 1), (1685, .bipush 105, 2), (1687, .castore, 1), (1688, .dup, 1), (1689, .iconst 2, 1), (1690, .bipush 100, 2), (1692, .castore, 1), (1693, .dup, 1), (1694, .iconst 3, 1), (1695, .bipush 101, 2), (1697, .castore, 1), (1698, .putfield 243, 3), (1701, .aload_n 0, 1), (1702, .iconst 3, 1), (1703, .newarray .char, 2), (1705, .dup, 1), (1706, .iconst 0, 1)]
set_option maxRecDepth 100000 in
theorem tkX12_init_q18 : ∀ q ∈ tX12_init_q18, decode cX12_init q.1 = .ok q.2 := by decide +kernel
def tX12_init_q19 : List (Nat × Instr × Nat) := [(1707, .bipush 119, 2), (1709, .castore, 1), (1710, .dup, 1), (1711, .iconst 1, 1), (1712, .bipush 101, 2), (1714, .castore, 1), (1715, .dup, 1), (1716, .iconst 2, 1), (1717, .bipush 100, 2), (1719, .castore, 1), (1720, .putfield 246, 3), (1723, .aload_n 0, 1), (1724, .iconst 5, 1), (1725, .newarray .char, 2), (1727, .dup, 1), (1728, .iconst 0, 1), (1729, .bipush 108, 2), (1731, .castore, 1), (1732, .dup, 1), (1733, .iconst 1, 1), (1734, .bipush 105, 2), (1736, .castore, 1), (1737, .dup, 1), (1738, .iconst 2, 1), (1739, .bipush 107, 2), (1741, .castore, 1), (1742, .dup, 1), (1743, .iconst 3, 1), (1744, .bipush 101, 2), (1746, .castore, 1), (1747, .dup, 1), (1748, .iconst 4, 1), (1749, .bipush 115, 2), (1751, .castore, 1), (1752, .putfield 249, 3), (1755, .aload_n 0, 1), (1756, .iconst 5, 1), (1757, .newarray .char, 2), (1759, .dup, 1), (1760, .iconst 0, 1), (1761, .bipush 107, 2), (1763, .castore, 1), (1764, .dup, 1), (1765, .iconst 1, 1), (1766, .bipush 110, 2), (1768, .castore, 1), (1769, .dup, 1), (1770, .iconst 2, 1), (1771, .bipush 111, 2), (1773, .castore, 1), (1774, .dup, 1), (1775, .iconst 3, 1), (1776, .bipush 119, 2), (1778, .castore, 1), (1779, .dup, 1), (1780, .iconst 4, 1), (1781, .bipush 115, 2), (1783, .castore, 1), (1784, .putfield 252, 3), (1787, .aload_n 0, 1), (1788, .sipush 1700, 3), (1791, .newarray .int, 2), (1793, .putfield 255, 3), (1796, .aload_n 0, 1)]
set_option maxRecDepth 100000 in
theorem tkX12_init_q19 : ∀ q ∈ tX12_init_q19, decode cX12_init q.1 = .ok q.2 := by decide +kernel
def tX12_init_q20 : List (Nat × Instr × Nat) := [(1797, .sipush 1700, 3), (1800, .newarray .int, 2), (1802, .putfield 258, 3), (1805, .aload_n 0, 1), (1806, .sipush 1700, 3), (1809, .newarray .long, 2), (1811, .putfield 261, 3), (1814, .aload_n 0, 1), (1815, .sipush 184, 3), (1818, .newarray .int, 2), (1820, .putfield 264, 3), (1823, .return_, 1)]
set_option maxRecDepth 100000 in
theorem tkX12_init_q20 : ∀ q ∈ tX12_init_q20, decode cX12_init q.1 = .ok q.2 := by decide +kernel
theorem vmX12_init : zIM yX12_init cX12_init 1 0 := ⟨kX12_init, q_1385, q_162, rfl, by decide +kernel, by decide⟩
set_option maxHeartbeats 2000000 in
set_option maxRecDepth 20000 in
theorem coX12_init_J1787 (l : Launch) (e : Nat) (he : 0 ≤ e) (v0 : Nat) : zCo l (e + 1) 4 5284 iX12_init 1787 [(0, .ref v0)] [] (X12_init_J1787 v0) := by
  unfold X12_init_J1787
  refine zco_p tkX12_init_q19 59 2 (pc' := 1791) (L' := [(0, .ref v0)]) (S' := [.int 1700, .ref v0]) rfl ?_
  refine zco_newa_int (N := 1700) q_202 (by decide) (by decide +kernel) (by decide) (zdk (cc := cX12_init) (q := (1791, .newarray .int, 2)) tkX12_init_q19 61 rfl) (fun a1 => ?_)
  refine zco_prF fl_12_255 (Or.inr ⟨_, rfl⟩) rfl rfl (by decide +kernel) (zdk (cc := cX12_init) (q := (1793, .putfield 255, 3)) tkX12_init_q19 62 rfl) ?_
  refine zco_p tkX12_init_q19 63 1 (pc' := 1797) (L' := [(0, .ref v0)]) (S' := [.ref v0]) rfl ?_
  refine zco_p tkX12_init_q20 0 1 (pc' := 1800) (L' := [(0, .ref v0)]) (S' := [.int 1700, .ref v0]) rfl ?_
  refine zco_newa_int (N := 1700) q_202 (by decide) (by decide +kernel) (by decide) (zdk (cc := cX12_init) (q := (1800, .newarray .int, 2)) tkX12_init_q20 1 rfl) (fun a2 => ?_)
  refine zco_prF fl_12_258 (Or.inr ⟨_, rfl⟩) rfl rfl (by decide +kernel) (zdk (cc := cX12_init) (q := (1802, .putfield 258, 3)) tkX12_init_q20 2 rfl) ?_
  refine zco_p tkX12_init_q20 3 2 (pc' := 1809) (L' := [(0, .ref v0)]) (S' := [.int 1700, .ref v0]) rfl ?_
  refine zco_newa_long (N := 1700) q_1738 (by decide) (by decide +kernel) (by decide) (zdk (cc := cX12_init) (q := (1809, .newarray .long, 2)) tkX12_init_q20 5 rfl) (fun a3 => ?_)
  refine zco_prF fl_12_261 (Or.inr ⟨_, rfl⟩) rfl rfl (by decide +kernel) (zdk (cc := cX12_init) (q := (1811, .putfield 261, 3)) tkX12_init_q20 6 rfl) ?_
  refine zco_p tkX12_init_q20 7 2 (pc' := 1818) (L' := [(0, .ref v0)]) (S' := [.int 184, .ref v0]) rfl ?_
  refine zco_newa_int (N := 184) q_202 (by decide) (by decide +kernel) (by decide) (zdk (cc := cX12_init) (q := (1818, .newarray .int, 2)) tkX12_init_q20 9 rfl) (fun a4 => ?_)
  refine zco_prF fl_12_264 (Or.inr ⟨_, rfl⟩) rfl rfl (by decide +kernel) (zdk (cc := cX12_init) (q := (1820, .putfield 264, 3)) tkX12_init_q20 10 rfl) ?_
  exact zco_vret rfl rfl rfl (zdk (cc := cX12_init) (q := (1823, .return_, 1)) tkX12_init_q20 11 rfl)
set_option maxHeartbeats 2000000 in
set_option maxRecDepth 20000 in
theorem coX12_init_J1701 (l : Launch) (e : Nat) (he : 0 ≤ e) (v0 : Nat) : zCo l (e + 1) 7 5297 iX12_init 1701 [(0, .ref v0)] [] (X12_init_J1701 v0) := by
  unfold X12_init_J1701
  refine zco_p tkX12_init_q18 59 2 (pc' := 1703) (L' := [(0, .ref v0)]) (S' := [.int 3, .ref v0]) rfl ?_
  refine zco_newa_char (N := 3) q_1737 (by decide) (by decide +kernel) (by decide) (zdk (cc := cX12_init) (q := (1703, .newarray .char, 2)) tkX12_init_q18 61 rfl) (fun a1 => ?_)
  refine zco_p tkX12_init_q18 62 2 (pc' := 1707) (L' := [(0, .ref v0)]) (S' := [.int 0, .ref a1, .ref a1, .ref v0]) rfl ?_
  refine zco_p tkX12_init_q19 0 1 (pc' := 1709) (L' := [(0, .ref v0)]) (S' := [.int 119, .int 0, .ref a1, .ref a1, .ref v0]) rfl ?_
  refine zco_castore (zdk (cc := cX12_init) (q := (1709, .castore, 1)) tkX12_init_q19 1 rfl) ?_
  refine zco_p tkX12_init_q19 2 3 (pc' := 1714) (L' := [(0, .ref v0)]) (S' := [.int 101, .int 1, .ref a1, .ref a1, .ref v0]) rfl ?_
  refine zco_castore (zdk (cc := cX12_init) (q := (1714, .castore, 1)) tkX12_init_q19 5 rfl) ?_
  refine zco_p tkX12_init_q19 6 3 (pc' := 1719) (L' := [(0, .ref v0)]) (S' := [.int 100, .int 2, .ref a1, .ref a1, .ref v0]) rfl ?_
  refine zco_castore (zdk (cc := cX12_init) (q := (1719, .castore, 1)) tkX12_init_q19 9 rfl) ?_
  refine zco_prF fl_12_246 (Or.inr ⟨_, rfl⟩) rfl rfl (by decide +kernel) (zdk (cc := cX12_init) (q := (1720, .putfield 246, 3)) tkX12_init_q19 10 rfl) ?_
  refine zco_p tkX12_init_q19 11 2 (pc' := 1725) (L' := [(0, .ref v0)]) (S' := [.int 5, .ref v0]) rfl ?_
  refine zco_newa_char (N := 5) q_1737 (by decide) (by decide +kernel) (by decide) (zdk (cc := cX12_init) (q := (1725, .newarray .char, 2)) tkX12_init_q19 13 rfl) (fun a2 => ?_)
  refine zco_p tkX12_init_q19 14 3 (pc' := 1731) (L' := [(0, .ref v0)]) (S' := [.int 108, .int 0, .ref a2, .ref a2, .ref v0]) rfl ?_
  refine zco_castore (zdk (cc := cX12_init) (q := (1731, .castore, 1)) tkX12_init_q19 17 rfl) ?_
  refine zco_p tkX12_init_q19 18 3 (pc' := 1736) (L' := [(0, .ref v0)]) (S' := [.int 105, .int 1, .ref a2, .ref a2, .ref v0]) rfl ?_
  refine zco_castore (zdk (cc := cX12_init) (q := (1736, .castore, 1)) tkX12_init_q19 21 rfl) ?_
  refine zco_p tkX12_init_q19 22 3 (pc' := 1741) (L' := [(0, .ref v0)]) (S' := [.int 107, .int 2, .ref a2, .ref a2, .ref v0]) rfl ?_
  refine zco_castore (zdk (cc := cX12_init) (q := (1741, .castore, 1)) tkX12_init_q19 25 rfl) ?_
  refine zco_p tkX12_init_q19 26 3 (pc' := 1746) (L' := [(0, .ref v0)]) (S' := [.int 101, .int 3, .ref a2, .ref a2, .ref v0]) rfl ?_
  refine zco_castore (zdk (cc := cX12_init) (q := (1746, .castore, 1)) tkX12_init_q19 29 rfl) ?_
  refine zco_p tkX12_init_q19 30 3 (pc' := 1751) (L' := [(0, .ref v0)]) (S' := [.int 115, .int 4, .ref a2, .ref a2, .ref v0]) rfl ?_
  refine zco_castore (zdk (cc := cX12_init) (q := (1751, .castore, 1)) tkX12_init_q19 33 rfl) ?_
  refine zco_prF fl_12_249 (Or.inr ⟨_, rfl⟩) rfl rfl (by decide +kernel) (zdk (cc := cX12_init) (q := (1752, .putfield 249, 3)) tkX12_init_q19 34 rfl) ?_
  refine zco_p tkX12_init_q19 35 2 (pc' := 1757) (L' := [(0, .ref v0)]) (S' := [.int 5, .ref v0]) rfl ?_
  refine zco_newa_char (N := 5) q_1737 (by decide) (by decide +kernel) (by decide) (zdk (cc := cX12_init) (q := (1757, .newarray .char, 2)) tkX12_init_q19 37 rfl) (fun a3 => ?_)
  refine zco_p tkX12_init_q19 38 3 (pc' := 1763) (L' := [(0, .ref v0)]) (S' := [.int 107, .int 0, .ref a3, .ref a3, .ref v0]) rfl ?_
  refine zco_castore (zdk (cc := cX12_init) (q := (1763, .castore, 1)) tkX12_init_q19 41 rfl) ?_
  refine zco_p tkX12_init_q19 42 3 (pc' := 1768) (L' := [(0, .ref v0)]) (S' := [.int 110, .int 1, .ref a3, .ref a3, .ref v0]) rfl ?_
  refine zco_castore (zdk (cc := cX12_init) (q := (1768, .castore, 1)) tkX12_init_q19 45 rfl) ?_
  refine zco_p tkX12_init_q19 46 3 (pc' := 1773) (L' := [(0, .ref v0)]) (S' := [.int 111, .int 2, .ref a3, .ref a3, .ref v0]) rfl ?_
  refine zco_castore (zdk (cc := cX12_init) (q := (1773, .castore, 1)) tkX12_init_q19 49 rfl) ?_
  refine zco_p tkX12_init_q19 50 3 (pc' := 1778) (L' := [(0, .ref v0)]) (S' := [.int 119, .int 3, .ref a3, .ref a3, .ref v0]) rfl ?_
  refine zco_castore (zdk (cc := cX12_init) (q := (1778, .castore, 1)) tkX12_init_q19 53 rfl) ?_
  refine zco_p tkX12_init_q19 54 3 (pc' := 1783) (L' := [(0, .ref v0)]) (S' := [.int 115, .int 4, .ref a3, .ref a3, .ref v0]) rfl ?_
  refine zco_castore (zdk (cc := cX12_init) (q := (1783, .castore, 1)) tkX12_init_q19 57 rfl) ?_
  refine zco_prF fl_12_252 (Or.inr ⟨_, rfl⟩) rfl rfl (by decide +kernel) (zdk (cc := cX12_init) (q := (1784, .putfield 252, 3)) tkX12_init_q19 58 rfl) ?_
  exact zco_sub [0] rfl (coX12_init_J1787 l e he v0)
set_option maxHeartbeats 2000000 in
set_option maxRecDepth 20000 in
theorem coX12_init_J1636 (l : Launch) (e : Nat) (he : 0 ≤ e) (v0 : Nat) : zCo l (e + 1) 9 5307 iX12_init 1636 [(0, .ref v0)] [] (X12_init_J1636 v0) := by
  unfold X12_init_J1636
  refine zco_p tkX12_init_q18 11 2 (pc' := 1639) (L' := [(0, .ref v0)]) (S' := [.int 6, .ref v0]) rfl ?_
  refine zco_newa_char (N := 6) q_1737 (by decide) (by decide +kernel) (by decide) (zdk (cc := cX12_init) (q := (1639, .newarray .char, 2)) tkX12_init_q18 13 rfl) (fun a1 => ?_)
  refine zco_p tkX12_init_q18 14 3 (pc' := 1645) (L' := [(0, .ref v0)]) (S' := [.int 110, .int 0, .ref a1, .ref a1, .ref v0]) rfl ?_
  refine zco_castore (zdk (cc := cX12_init) (q := (1645, .castore, 1)) tkX12_init_q18 17 rfl) ?_
  refine zco_p tkX12_init_q18 18 3 (pc' := 1650) (L' := [(0, .ref v0)]) (S' := [.int 117, .int 1, .ref a1, .ref a1, .ref v0]) rfl ?_
  refine zco_castore (zdk (cc := cX12_init) (q := (1650, .castore, 1)) tkX12_init_q18 21 rfl) ?_
  refine zco_p tkX12_init_q18 22 3 (pc' := 1655) (L' := [(0, .ref v0)]) (S' := [.int 109, .int 2, .ref a1, .ref a1, .ref v0]) rfl ?_
  refine zco_castore (zdk (cc := cX12_init) (q := (1655, .castore, 1)) tkX12_init_q18 25 rfl) ?_
  refine zco_p tkX12_init_q18 26 3 (pc' := 1660) (L' := [(0, .ref v0)]) (S' := [.int 98, .int 3, .ref a1, .ref a1, .ref v0]) rfl ?_
  refine zco_castore (zdk (cc := cX12_init) (q := (1660, .castore, 1)) tkX12_init_q18 29 rfl) ?_
  refine zco_p tkX12_init_q18 30 3 (pc' := 1665) (L' := [(0, .ref v0)]) (S' := [.int 101, .int 4, .ref a1, .ref a1, .ref v0]) rfl ?_
  refine zco_castore (zdk (cc := cX12_init) (q := (1665, .castore, 1)) tkX12_init_q18 33 rfl) ?_
  refine zco_p tkX12_init_q18 34 3 (pc' := 1670) (L' := [(0, .ref v0)]) (S' := [.int 114, .int 5, .ref a1, .ref a1, .ref v0]) rfl ?_
  refine zco_castore (zdk (cc := cX12_init) (q := (1670, .castore, 1)) tkX12_init_q18 37 rfl) ?_
  refine zco_prF fl_12_240 (Or.inr ⟨_, rfl⟩) rfl rfl (by decide +kernel) (zdk (cc := cX12_init) (q := (1671, .putfield 240, 3)) tkX12_init_q18 38 rfl) ?_
  refine zco_p tkX12_init_q18 39 2 (pc' := 1676) (L' := [(0, .ref v0)]) (S' := [.int 4, .ref v0]) rfl ?_
  refine zco_newa_char (N := 4) q_1737 (by decide) (by decide +kernel) (by decide) (zdk (cc := cX12_init) (q := (1676, .newarray .char, 2)) tkX12_init_q18 41 rfl) (fun a2 => ?_)
  refine zco_p tkX12_init_q18 42 3 (pc' := 1682) (L' := [(0, .ref v0)]) (S' := [.int 115, .int 0, .ref a2, .ref a2, .ref v0]) rfl ?_
  refine zco_castore (zdk (cc := cX12_init) (q := (1682, .castore, 1)) tkX12_init_q18 45 rfl) ?_
  refine zco_p tkX12_init_q18 46 3 (pc' := 1687) (L' := [(0, .ref v0)]) (S' := [.int 105, .int 1, .ref a2, .ref a2, .ref v0]) rfl ?_
  refine zco_castore (zdk (cc := cX12_init) (q := (1687, .castore, 1)) tkX12_init_q18 49 rfl) ?_
  refine zco_p tkX12_init_q18 50 3 (pc' := 1692) (L' := [(0, .ref v0)]) (S' := [.int 100, .int 2, .ref a2, .ref a2, .ref v0]) rfl ?_
  refine zco_castore (zdk (cc := cX12_init) (q := (1692, .castore, 1)) tkX12_init_q18 53 rfl) ?_
  refine zco_p tkX12_init_q18 54 3 (pc' := 1697) (L' := [(0, .ref v0)]) (S' := [.int 101, .int 3, .ref a2, .ref a2, .ref v0]) rfl ?_
  refine zco_castore (zdk (cc := cX12_init) (q := (1697, .castore, 1)) tkX12_init_q18 57 rfl) ?_
  refine zco_prF fl_12_243 (Or.inr ⟨_, rfl⟩) rfl rfl (by decide +kernel) (zdk (cc := cX12_init) (q := (1698, .putfield 243, 3)) tkX12_init_q18 58 rfl) ?_
  exact zco_sub [0] rfl (coX12_init_J1701 l e he v0)
set_option maxHeartbeats 2000000 in
set_option maxRecDepth 20000 in
theorem coX12_init_J1566 (l : Launch) (e : Nat) (he : 0 ≤ e) (v0 : Nat) : zCo l (e + 1) 11 5318 iX12_init 1566 [(0, .ref v0)] [] (X12_init_J1566 v0) := by
  unfold X12_init_J1566
  refine zco_p tkX12_init_q17 23 2 (pc' := 1568) (L' := [(0, .ref v0)]) (S' := [.int 5, .ref v0]) rfl ?_
  refine zco_newa_char (N := 5) q_1737 (by decide) (by decide +kernel) (by decide) (zdk (cc := cX12_init) (q := (1568, .newarray .char, 2)) tkX12_init_q17 25 rfl) (fun a1 => ?_)
  refine zco_p tkX12_init_q17 26 3 (pc' := 1574) (L' := [(0, .ref v0)]) (S' := [.int 114, .int 0, .ref a1, .ref a1, .ref v0]) rfl ?_
  refine zco_castore (zdk (cc := cX12_init) (q := (1574, .castore, 1)) tkX12_init_q17 29 rfl) ?_
  refine zco_p tkX12_init_q17 30 3 (pc' := 1579) (L' := [(0, .ref v0)]) (S' := [.int 111, .int 1, .ref a1, .ref a1, .ref v0]) rfl ?_
  refine zco_castore (zdk (cc := cX12_init) (q := (1579, .castore, 1)) tkX12_init_q17 33 rfl) ?_
  refine zco_p tkX12_init_q17 34 3 (pc' := 1584) (L' := [(0, .ref v0)]) (S' := [.int 117, .int 2, .ref a1, .ref a1, .ref v0]) rfl ?_
  refine zco_castore (zdk (cc := cX12_init) (q := (1584, .castore, 1)) tkX12_init_q17 37 rfl) ?_
  refine zco_p tkX12_init_q17 38 3 (pc' := 1589) (L' := [(0, .ref v0)]) (S' := [.int 110, .int 3, .ref a1, .ref a1, .ref v0]) rfl ?_
  refine zco_castore (zdk (cc := cX12_init) (q := (1589, .castore, 1)) tkX12_init_q17 41 rfl) ?_
  refine zco_p tkX12_init_q17 42 3 (pc' := 1594) (L' := [(0, .ref v0)]) (S' := [.int 100, .int 4, .ref a1, .ref a1, .ref v0]) rfl ?_
  refine zco_castore (zdk (cc := cX12_init) (q := (1594, .castore, 1)) tkX12_init_q17 45 rfl) ?_
  refine zco_prF fl_12_234 (Or.inr ⟨_, rfl⟩) rfl rfl (by decide +kernel) (zdk (cc := cX12_init) (q := (1595, .putfield 234, 3)) tkX12_init_q17 46 rfl) ?_
  refine zco_p tkX12_init_q17 47 2 (pc' := 1601) (L' := [(0, .ref v0)]) (S' := [.int 6, .ref v0]) rfl ?_
  refine zco_newa_char (N := 6) q_1737 (by decide) (by decide +kernel) (by decide) (zdk (cc := cX12_init) (q := (1601, .newarray .char, 2)) tkX12_init_q17 49 rfl) (fun a2 => ?_)
  refine zco_p tkX12_init_q17 50 3 (pc' := 1607) (L' := [(0, .ref v0)]) (S' := [.int 119, .int 0, .ref a2, .ref a2, .ref v0]) rfl ?_
  refine zco_castore (zdk (cc := cX12_init) (q := (1607, .castore, 1)) tkX12_init_q17 53 rfl) ?_
  refine zco_p tkX12_init_q17 54 3 (pc' := 1612) (L' := [(0, .ref v0)]) (S' := [.int 97, .int 1, .ref a2, .ref a2, .ref v0]) rfl ?_
  refine zco_castore (zdk (cc := cX12_init) (q := (1612, .castore, 1)) tkX12_init_q17 57 rfl) ?_
  refine zco_p tkX12_init_q17 58 3 (pc' := 1617) (L' := [(0, .ref v0)]) (S' := [.int 105, .int 2, .ref a2, .ref a2, .ref v0]) rfl ?_
  refine zco_castore (zdk (cc := cX12_init) (q := (1617, .castore, 1)) tkX12_init_q17 61 rfl) ?_
  refine zco_p tkX12_init_q17 62 2 (pc' := 1620) (L' := [(0, .ref v0)]) (S' := [.int 3, .ref a2, .ref a2, .ref v0]) rfl ?_
  refine zco_p tkX12_init_q18 0 1 (pc' := 1622) (L' := [(0, .ref v0)]) (S' := [.int 116, .int 3, .ref a2, .ref a2, .ref v0]) rfl ?_
  refine zco_castore (zdk (cc := cX12_init) (q := (1622, .castore, 1)) tkX12_init_q18 1 rfl) ?_
  refine zco_p tkX12_init_q18 2 3 (pc' := 1627) (L' := [(0, .ref v0)]) (S' := [.int 101, .int 4, .ref a2, .ref a2, .ref v0]) rfl ?_
  refine zco_castore (zdk (cc := cX12_init) (q := (1627, .castore, 1)) tkX12_init_q18 5 rfl) ?_
  refine zco_p tkX12_init_q18 6 3 (pc' := 1632) (L' := [(0, .ref v0)]) (S' := [.int 100, .int 5, .ref a2, .ref a2, .ref v0]) rfl ?_
  refine zco_castore (zdk (cc := cX12_init) (q := (1632, .castore, 1)) tkX12_init_q18 9 rfl) ?_
  refine zco_prF fl_12_237 (Or.inr ⟨_, rfl⟩) rfl rfl (by decide +kernel) (zdk (cc := cX12_init) (q := (1633, .putfield 237, 3)) tkX12_init_q18 10 rfl) ?_
  exact zco_sub [0] rfl (coX12_init_J1636 l e he v0)
set_option maxHeartbeats 2000000 in
set_option maxRecDepth 20000 in
theorem coX12_init_J1501 (l : Launch) (e : Nat) (he : 0 ≤ e) (v0 : Nat) : zCo l (e + 1) 13 5328 iX12_init 1501 [(0, .ref v0)] [] (X12_init_J1501 v0) := by
  unfold X12_init_J1501
  refine zco_p tkX12_init_q16 39 2 (pc' := 1504) (L' := [(0, .ref v0)]) (S' := [.int 6, .ref v0]) rfl ?_
  refine zco_newa_char (N := 6) q_1737 (by decide) (by decide +kernel) (by decide) (zdk (cc := cX12_init) (q := (1504, .newarray .char, 2)) tkX12_init_q16 41 rfl) (fun a1 => ?_)
  refine zco_p tkX12_init_q16 42 3 (pc' := 1510) (L' := [(0, .ref v0)]) (S' := [.int 108, .int 0, .ref a1, .ref a1, .ref v0]) rfl ?_
  refine zco_castore (zdk (cc := cX12_init) (q := (1510, .castore, 1)) tkX12_init_q16 45 rfl) ?_
  refine zco_p tkX12_init_q16 46 3 (pc' := 1515) (L' := [(0, .ref v0)]) (S' := [.int 105, .int 1, .ref a1, .ref a1, .ref v0]) rfl ?_
  refine zco_castore (zdk (cc := cX12_init) (q := (1515, .castore, 1)) tkX12_init_q16 49 rfl) ?_
  refine zco_p tkX12_init_q16 50 3 (pc' := 1520) (L' := [(0, .ref v0)]) (S' := [.int 107, .int 2, .ref a1, .ref a1, .ref v0]) rfl ?_
  refine zco_castore (zdk (cc := cX12_init) (q := (1520, .castore, 1)) tkX12_init_q16 53 rfl) ?_
  refine zco_p tkX12_init_q16 54 3 (pc' := 1525) (L' := [(0, .ref v0)]) (S' := [.int 105, .int 3, .ref a1, .ref a1, .ref v0]) rfl ?_
  refine zco_castore (zdk (cc := cX12_init) (q := (1525, .castore, 1)) tkX12_init_q16 57 rfl) ?_
  refine zco_p tkX12_init_q16 58 3 (pc' := 1530) (L' := [(0, .ref v0)]) (S' := [.int 110, .int 4, .ref a1, .ref a1, .ref v0]) rfl ?_
  refine zco_castore (zdk (cc := cX12_init) (q := (1530, .castore, 1)) tkX12_init_q16 61 rfl) ?_
  refine zco_p tkX12_init_q16 62 2 (pc' := 1533) (L' := [(0, .ref v0)]) (S' := [.int 5, .ref a1, .ref a1, .ref v0]) rfl ?_
  refine zco_p tkX12_init_q17 0 1 (pc' := 1535) (L' := [(0, .ref v0)]) (S' := [.int 103, .int 5, .ref a1, .ref a1, .ref v0]) rfl ?_
  refine zco_castore (zdk (cc := cX12_init) (q := (1535, .castore, 1)) tkX12_init_q17 1 rfl) ?_
  refine zco_prF fl_12_228 (Or.inr ⟨_, rfl⟩) rfl rfl (by decide +kernel) (zdk (cc := cX12_init) (q := (1536, .putfield 228, 3)) tkX12_init_q17 2 rfl) ?_
  refine zco_p tkX12_init_q17 3 2 (pc' := 1541) (L' := [(0, .ref v0)]) (S' := [.int 4, .ref v0]) rfl ?_
  refine zco_newa_char (N := 4) q_1737 (by decide) (by decide +kernel) (by decide) (zdk (cc := cX12_init) (q := (1541, .newarray .char, 2)) tkX12_init_q17 5 rfl) (fun a2 => ?_)
  refine zco_p tkX12_init_q17 6 3 (pc' := 1547) (L' := [(0, .ref v0)]) (S' := [.int 102, .int 0, .ref a2, .ref a2, .ref v0]) rfl ?_
  refine zco_castore (zdk (cc := cX12_init) (q := (1547, .castore, 1)) tkX12_init_q17 9 rfl) ?_
  refine zco_p tkX12_init_q17 10 3 (pc' := 1552) (L' := [(0, .ref v0)]) (S' := [.int 101, .int 1, .ref a2, .ref a2, .ref v0]) rfl ?_
  refine zco_castore (zdk (cc := cX12_init) (q := (1552, .castore, 1)) tkX12_init_q17 13 rfl) ?_
  refine zco_p tkX12_init_q17 14 3 (pc' := 1557) (L' := [(0, .ref v0)]) (S' := [.int 101, .int 2, .ref a2, .ref a2, .ref v0]) rfl ?_
  refine zco_castore (zdk (cc := cX12_init) (q := (1557, .castore, 1)) tkX12_init_q17 17 rfl) ?_
  refine zco_p tkX12_init_q17 18 3 (pc' := 1562) (L' := [(0, .ref v0)]) (S' := [.int 108, .int 3, .ref a2, .ref a2, .ref v0]) rfl ?_
  refine zco_castore (zdk (cc := cX12_init) (q := (1562, .castore, 1)) tkX12_init_q17 21 rfl) ?_
  refine zco_prF fl_12_231 (Or.inr ⟨_, rfl⟩) rfl rfl (by decide +kernel) (zdk (cc := cX12_init) (q := (1563, .putfield 231, 3)) tkX12_init_q17 22 rfl) ?_
  exact zco_sub [0] rfl (coX12_init_J1566 l e he v0)
set_option maxHeartbeats 2000000 in
set_option maxRecDepth 20000 in
theorem coX12_init_J1420 (l : Launch) (e : Nat) (he : 0 ≤ e) (v0 : Nat) : zCo l (e + 1) 16 5340 iX12_init 1420 [(0, .ref v0)] [] (X12_init_J1420 v0) := by
  unfold X12_init_J1420
  refine zco_p tkX12_init_q15 43 2 (pc' := 1422) (L' := [(0, .ref v0)]) (S' := [.int 4, .ref v0]) rfl ?_
  refine zco_newa_char (N := 4) q_1737 (by decide) (by decide +kernel) (by decide) (zdk (cc := cX12_init) (q := (1422, .newarray .char, 2)) tkX12_init_q15 45 rfl) (fun a1 => ?_)
  refine zco_p tkX12_init_q15 46 3 (pc' := 1428) (L' := [(0, .ref v0)]) (S' := [.int 119, .int 0, .ref a1, .ref a1, .ref v0]) rfl ?_
  refine zco_castore (zdk (cc := cX12_init) (q := (1428, .castore, 1)) tkX12_init_q15 49 rfl) ?_
  refine zco_p tkX12_init_q15 50 3 (pc' := 1433) (L' := [(0, .ref v0)]) (S' := [.int 97, .int 1, .ref a1, .ref a1, .ref v0]) rfl ?_
  refine zco_castore (zdk (cc := cX12_init) (q := (1433, .castore, 1)) tkX12_init_q15 53 rfl) ?_
  refine zco_p tkX12_init_q15 54 3 (pc' := 1438) (L' := [(0, .ref v0)]) (S' := [.int 114, .int 2, .ref a1, .ref a1, .ref v0]) rfl ?_
  refine zco_castore (zdk (cc := cX12_init) (q := (1438, .castore, 1)) tkX12_init_q15 57 rfl) ?_
  refine zco_p tkX12_init_q15 58 3 (pc' := 1443) (L' := [(0, .ref v0)]) (S' := [.int 109, .int 3, .ref a1, .ref a1, .ref v0]) rfl ?_
  refine zco_castore (zdk (cc := cX12_init) (q := (1443, .castore, 1)) tkX12_init_q15 61 rfl) ?_
  refine zco_prF fl_12_219 (Or.inr ⟨_, rfl⟩) rfl rfl (by decide +kernel) (zdk (cc := cX12_init) (q := (1444, .putfield 219, 3)) tkX12_init_q15 62 rfl) ?_
  refine zco_p tkX12_init_q15 63 1 (pc' := 1448) (L' := [(0, .ref v0)]) (S' := [.ref v0]) rfl ?_
  refine zco_p tkX12_init_q16 0 1 (pc' := 1449) (L' := [(0, .ref v0)]) (S' := [.int 4, .ref v0]) rfl ?_
  refine zco_newa_char (N := 4) q_1737 (by decide) (by decide +kernel) (by decide) (zdk (cc := cX12_init) (q := (1449, .newarray .char, 2)) tkX12_init_q16 1 rfl) (fun a2 => ?_)
  refine zco_p tkX12_init_q16 2 3 (pc' := 1455) (L' := [(0, .ref v0)]) (S' := [.int 119, .int 0, .ref a2, .ref a2, .ref v0]) rfl ?_
  refine zco_castore (zdk (cc := cX12_init) (q := (1455, .castore, 1)) tkX12_init_q16 5 rfl) ?_
  refine zco_p tkX12_init_q16 6 3 (pc' := 1460) (L' := [(0, .ref v0)]) (S' := [.int 111, .int 1, .ref a2, .ref a2, .ref v0]) rfl ?_
  refine zco_castore (zdk (cc := cX12_init) (q := (1460, .castore, 1)) tkX12_init_q16 9 rfl) ?_
  refine zco_p tkX12_init_q16 10 3 (pc' := 1465) (L' := [(0, .ref v0)]) (S' := [.int 114, .int 2, .ref a2, .ref a2, .ref v0]) rfl ?_
  refine zco_castore (zdk (cc := cX12_init) (q := (1465, .castore, 1)) tkX12_init_q16 13 rfl) ?_
  refine zco_p tkX12_init_q16 14 3 (pc' := 1470) (L' := [(0, .ref v0)]) (S' := [.int 107, .int 3, .ref a2, .ref a2, .ref v0]) rfl ?_
  refine zco_castore (zdk (cc := cX12_init) (q := (1470, .castore, 1)) tkX12_init_q16 17 rfl) ?_
  refine zco_prF fl_12_222 (Or.inr ⟨_, rfl⟩) rfl rfl (by decide +kernel) (zdk (cc := cX12_init) (q := (1471, .putfield 222, 3)) tkX12_init_q16 18 rfl) ?_
  refine zco_p tkX12_init_q16 19 2 (pc' := 1476) (L' := [(0, .ref v0)]) (S' := [.int 4, .ref v0]) rfl ?_
  refine zco_newa_char (N := 4) q_1737 (by decide) (by decide +kernel) (by decide) (zdk (cc := cX12_init) (q := (1476, .newarray .char, 2)) tkX12_init_q16 21 rfl) (fun a3 => ?_)
  refine zco_p tkX12_init_q16 22 3 (pc' := 1482) (L' := [(0, .ref v0)]) (S' := [.int 115, .int 0, .ref a3, .ref a3, .ref v0]) rfl ?_
  refine zco_castore (zdk (cc := cX12_init) (q := (1482, .castore, 1)) tkX12_init_q16 25 rfl) ?_
  refine zco_p tkX12_init_q16 26 3 (pc' := 1487) (L' := [(0, .ref v0)]) (S' := [.int 105, .int 1, .ref a3, .ref a3, .ref v0]) rfl ?_
  refine zco_castore (zdk (cc := cX12_init) (q := (1487, .castore, 1)) tkX12_init_q16 29 rfl) ?_
  refine zco_p tkX12_init_q16 30 3 (pc' := 1492) (L' := [(0, .ref v0)]) (S' := [.int 122, .int 2, .ref a3, .ref a3, .ref v0]) rfl ?_
  refine zco_castore (zdk (cc := cX12_init) (q := (1492, .castore, 1)) tkX12_init_q16 33 rfl) ?_
  refine zco_p tkX12_init_q16 34 3 (pc' := 1497) (L' := [(0, .ref v0)]) (S' := [.int 101, .int 3, .ref a3, .ref a3, .ref v0]) rfl ?_
  refine zco_castore (zdk (cc := cX12_init) (q := (1497, .castore, 1)) tkX12_init_q16 37 rfl) ?_
  refine zco_prF fl_12_225 (Or.inr ⟨_, rfl⟩) rfl rfl (by decide +kernel) (zdk (cc := cX12_init) (q := (1498, .putfield 225, 3)) tkX12_init_q16 38 rfl) ?_
  exact zco_sub [0] rfl (coX12_init_J1501 l e he v0)
set_option maxHeartbeats 2000000 in
set_option maxRecDepth 20000 in
theorem coX12_init_J1328 (l : Launch) (e : Nat) (he : 0 ≤ e) (v0 : Nat) : zCo l (e + 1) 19 5354 iX12_init 1328 [(0, .ref v0)] [] (X12_init_J1328 v0) := by
  unfold X12_init_J1328
  refine zco_p tkX12_init_q14 39 2 (pc' := 1330) (L' := [(0, .ref v0)]) (S' := [.int 3, .ref v0]) rfl ?_
  refine zco_newa_char (N := 3) q_1737 (by decide) (by decide +kernel) (by decide) (zdk (cc := cX12_init) (q := (1330, .newarray .char, 2)) tkX12_init_q14 41 rfl) (fun a1 => ?_)
  refine zco_p tkX12_init_q14 42 3 (pc' := 1336) (L' := [(0, .ref v0)]) (S' := [.int 109, .int 0, .ref a1, .ref a1, .ref v0]) rfl ?_
  refine zco_castore (zdk (cc := cX12_init) (q := (1336, .castore, 1)) tkX12_init_q14 45 rfl) ?_
  refine zco_p tkX12_init_q14 46 3 (pc' := 1341) (L' := [(0, .ref v0)]) (S' := [.int 97, .int 1, .ref a1, .ref a1, .ref v0]) rfl ?_
  refine zco_castore (zdk (cc := cX12_init) (q := (1341, .castore, 1)) tkX12_init_q14 49 rfl) ?_
  refine zco_p tkX12_init_q14 50 3 (pc' := 1346) (L' := [(0, .ref v0)]) (S' := [.int 120, .int 2, .ref a1, .ref a1, .ref v0]) rfl ?_
  refine zco_castore (zdk (cc := cX12_init) (q := (1346, .castore, 1)) tkX12_init_q14 53 rfl) ?_
  refine zco_prF fl_12_210 (Or.inr ⟨_, rfl⟩) rfl rfl (by decide +kernel) (zdk (cc := cX12_init) (q := (1347, .putfield 210, 3)) tkX12_init_q14 54 rfl) ?_
  refine zco_p tkX12_init_q14 55 2 (pc' := 1352) (L' := [(0, .ref v0)]) (S' := [.int 5, .ref v0]) rfl ?_
  refine zco_newa_char (N := 5) q_1737 (by decide) (by decide +kernel) (by decide) (zdk (cc := cX12_init) (q := (1352, .newarray .char, 2)) tkX12_init_q14 57 rfl) (fun a2 => ?_)
  refine zco_p tkX12_init_q14 58 3 (pc' := 1358) (L' := [(0, .ref v0)]) (S' := [.int 107, .int 0, .ref a2, .ref a2, .ref v0]) rfl ?_
  refine zco_castore (zdk (cc := cX12_init) (q := (1358, .castore, 1)) tkX12_init_q14 61 rfl) ?_
  refine zco_p tkX12_init_q14 62 2 (pc' := 1361) (L' := [(0, .ref v0)]) (S' := [.int 1, .ref a2, .ref a2, .ref v0]) rfl ?_
  refine zco_p tkX12_init_q15 0 1 (pc' := 1363) (L' := [(0, .ref v0)]) (S' := [.int 110, .int 1, .ref a2, .ref a2, .ref v0]) rfl ?_
  refine zco_castore (zdk (cc := cX12_init) (q := (1363, .castore, 1)) tkX12_init_q15 1 rfl) ?_
  refine zco_p tkX12_init_q15 2 3 (pc' := 1368) (L' := [(0, .ref v0)]) (S' := [.int 111, .int 2, .ref a2, .ref a2, .ref v0]) rfl ?_
  refine zco_castore (zdk (cc := cX12_init) (q := (1368, .castore, 1)) tkX12_init_q15 5 rfl) ?_
  refine zco_p tkX12_init_q15 6 3 (pc' := 1373) (L' := [(0, .ref v0)]) (S' := [.int 119, .int 3, .ref a2, .ref a2, .ref v0]) rfl ?_
  refine zco_castore (zdk (cc := cX12_init) (q := (1373, .castore, 1)) tkX12_init_q15 9 rfl) ?_
  refine zco_p tkX12_init_q15 10 3 (pc' := 1378) (L' := [(0, .ref v0)]) (S' := [.int 110, .int 4, .ref a2, .ref a2, .ref v0]) rfl ?_
  refine zco_castore (zdk (cc := cX12_init) (q := (1378, .castore, 1)) tkX12_init_q15 13 rfl) ?_
  refine zco_prF fl_12_213 (Or.inr ⟨_, rfl⟩) rfl rfl (by decide +kernel) (zdk (cc := cX12_init) (q := (1379, .putfield 213, 3)) tkX12_init_q15 14 rfl) ?_
  refine zco_p tkX12_init_q15 15 2 (pc' := 1385) (L' := [(0, .ref v0)]) (S' := [.int 6, .ref v0]) rfl ?_
  refine zco_newa_char (N := 6) q_1737 (by decide) (by decide +kernel) (by decide) (zdk (cc := cX12_init) (q := (1385, .newarray .char, 2)) tkX12_init_q15 17 rfl) (fun a3 => ?_)
  refine zco_p tkX12_init_q15 18 3 (pc' := 1391) (L' := [(0, .ref v0)]) (S' := [.int 115, .int 0, .ref a3, .ref a3, .ref v0]) rfl ?_
  refine zco_castore (zdk (cc := cX12_init) (q := (1391, .castore, 1)) tkX12_init_q15 21 rfl) ?_
  refine zco_p tkX12_init_q15 22 3 (pc' := 1396) (L' := [(0, .ref v0)]) (S' := [.int 112, .int 1, .ref a3, .ref a3, .ref v0]) rfl ?_
  refine zco_castore (zdk (cc := cX12_init) (q := (1396, .castore, 1)) tkX12_init_q15 25 rfl) ?_
  refine zco_p tkX12_init_q15 26 3 (pc' := 1401) (L' := [(0, .ref v0)]) (S' := [.int 114, .int 2, .ref a3, .ref a3, .ref v0]) rfl ?_
  refine zco_castore (zdk (cc := cX12_init) (q := (1401, .castore, 1)) tkX12_init_q15 29 rfl) ?_
  refine zco_p tkX12_init_q15 30 3 (pc' := 1406) (L' := [(0, .ref v0)]) (S' := [.int 105, .int 3, .ref a3, .ref a3, .ref v0]) rfl ?_
  refine zco_castore (zdk (cc := cX12_init) (q := (1406, .castore, 1)) tkX12_init_q15 33 rfl) ?_
  refine zco_p tkX12_init_q15 34 3 (pc' := 1411) (L' := [(0, .ref v0)]) (S' := [.int 110, .int 4, .ref a3, .ref a3, .ref v0]) rfl ?_
  refine zco_castore (zdk (cc := cX12_init) (q := (1411, .castore, 1)) tkX12_init_q15 37 rfl) ?_
  refine zco_p tkX12_init_q15 38 3 (pc' := 1416) (L' := [(0, .ref v0)]) (S' := [.int 103, .int 5, .ref a3, .ref a3, .ref v0]) rfl ?_
  refine zco_castore (zdk (cc := cX12_init) (q := (1416, .castore, 1)) tkX12_init_q15 41 rfl) ?_
  refine zco_prF fl_12_216 (Or.inr ⟨_, rfl⟩) rfl rfl (by decide +kernel) (zdk (cc := cX12_init) (q := (1417, .putfield 216, 3)) tkX12_init_q15 42 rfl) ?_
  exact zco_sub [0] rfl (coX12_init_J1420 l e he v0)
set_option maxHeartbeats 2000000 in
set_option maxRecDepth 20000 in
theorem coX12_init_J1245 (l : Launch) (e : Nat) (he : 0 ≤ e) (v0 : Nat) : zCo l (e + 1) 23 5365 iX12_init 1245 [(0, .ref v0)] [] (X12_init_J1245 v0) := by
  unfold X12_init_J1245
  refine zco_p tkX12_init_q13 43 2 (pc' := 1247) (L' := [(0, .ref v0)]) (S' := [.int 3, .ref v0]) rfl ?_
  refine zco_newa_char (N := 3) q_1737 (by decide) (by decide +kernel) (by decide) (zdk (cc := cX12_init) (q := (1247, .newarray .char, 2)) tkX12_init_q13 45 rfl) (fun a1 => ?_)
  refine zco_p tkX12_init_q13 46 3 (pc' := 1253) (L' := [(0, .ref v0)]) (S' := [.int 97, .int 0, .ref a1, .ref a1, .ref v0]) rfl ?_
  refine zco_castore (zdk (cc := cX12_init) (q := (1253, .castore, 1)) tkX12_init_q13 49 rfl) ?_
  refine zco_p tkX12_init_q13 50 3 (pc' := 1258) (L' := [(0, .ref v0)]) (S' := [.int 110, .int 1, .ref a1, .ref a1, .ref v0]) rfl ?_
  refine zco_castore (zdk (cc := cX12_init) (q := (1258, .castore, 1)) tkX12_init_q13 53 rfl) ?_
  refine zco_p tkX12_init_q13 54 3 (pc' := 1263) (L' := [(0, .ref v0)]) (S' := [.int 100, .int 2, .ref a1, .ref a1, .ref v0]) rfl ?_
  refine zco_castore (zdk (cc := cX12_init) (q := (1263, .castore, 1)) tkX12_init_q13 57 rfl) ?_
  refine zco_prF fl_12_198 (Or.inr ⟨_, rfl⟩) rfl rfl (by decide +kernel) (zdk (cc := cX12_init) (q := (1264, .putfield 198, 3)) tkX12_init_q13 58 rfl) ?_
  refine zco_p tkX12_init_q13 59 2 (pc' := 1269) (L' := [(0, .ref v0)]) (S' := [.int 2, .ref v0]) rfl ?_
  refine zco_newa_char (N := 2) q_1737 (by decide) (by decide +kernel) (by decide) (zdk (cc := cX12_init) (q := (1269, .newarray .char, 2)) tkX12_init_q13 61 rfl) (fun a2 => ?_)
  refine zco_p tkX12_init_q13 62 2 (pc' := 1273) (L' := [(0, .ref v0)]) (S' := [.int 0, .ref a2, .ref a2, .ref v0]) rfl ?_
  refine zco_p tkX12_init_q14 0 1 (pc' := 1275) (L' := [(0, .ref v0)]) (S' := [.int 111, .int 0, .ref a2, .ref a2, .ref v0]) rfl ?_
  refine zco_castore (zdk (cc := cX12_init) (q := (1275, .castore, 1)) tkX12_init_q14 1 rfl) ?_
  refine zco_p tkX12_init_q14 2 3 (pc' := 1280) (L' := [(0, .ref v0)]) (S' := [.int 114, .int 1, .ref a2, .ref a2, .ref v0]) rfl ?_
  refine zco_castore (zdk (cc := cX12_init) (q := (1280, .castore, 1)) tkX12_init_q14 5 rfl) ?_
  refine zco_prF fl_12_201 (Or.inr ⟨_, rfl⟩) rfl rfl (by decide +kernel) (zdk (cc := cX12_init) (q := (1281, .putfield 201, 3)) tkX12_init_q14 6 rfl) ?_
  refine zco_p tkX12_init_q14 7 2 (pc' := 1286) (L' := [(0, .ref v0)]) (S' := [.int 3, .ref v0]) rfl ?_
  refine zco_newa_char (N := 3) q_1737 (by decide) (by decide +kernel) (by decide) (zdk (cc := cX12_init) (q := (1286, .newarray .char, 2)) tkX12_init_q14 9 rfl) (fun a3 => ?_)
  refine zco_p tkX12_init_q14 10 3 (pc' := 1292) (L' := [(0, .ref v0)]) (S' := [.int 97, .int 0, .ref a3, .ref a3, .ref v0]) rfl ?_
  refine zco_castore (zdk (cc := cX12_init) (q := (1292, .castore, 1)) tkX12_init_q14 13 rfl) ?_
  refine zco_p tkX12_init_q14 14 3 (pc' := 1297) (L' := [(0, .ref v0)]) (S' := [.int 108, .int 1, .ref a3, .ref a3, .ref v0]) rfl ?_
  refine zco_castore (zdk (cc := cX12_init) (q := (1297, .castore, 1)) tkX12_init_q14 17 rfl) ?_
  refine zco_p tkX12_init_q14 18 3 (pc' := 1302) (L' := [(0, .ref v0)]) (S' := [.int 108, .int 2, .ref a3, .ref a3, .ref v0]) rfl ?_
  refine zco_castore (zdk (cc := cX12_init) (q := (1302, .castore, 1)) tkX12_init_q14 21 rfl) ?_
  refine zco_prF fl_12_204 (Or.inr ⟨_, rfl⟩) rfl rfl (by decide +kernel) (zdk (cc := cX12_init) (q := (1303, .putfield 204, 3)) tkX12_init_q14 22 rfl) ?_
  refine zco_p tkX12_init_q14 23 2 (pc' := 1308) (L' := [(0, .ref v0)]) (S' := [.int 3, .ref v0]) rfl ?_
  refine zco_newa_char (N := 3) q_1737 (by decide) (by decide +kernel) (by decide) (zdk (cc := cX12_init) (q := (1308, .newarray .char, 2)) tkX12_init_q14 25 rfl) (fun a4 => ?_)
  refine zco_p tkX12_init_q14 26 3 (pc' := 1314) (L' := [(0, .ref v0)]) (S' := [.int 109, .int 0, .ref a4, .ref a4, .ref v0]) rfl ?_
  refine zco_castore (zdk (cc := cX12_init) (q := (1314, .castore, 1)) tkX12_init_q14 29 rfl) ?_
  refine zco_p tkX12_init_q14 30 3 (pc' := 1319) (L' := [(0, .ref v0)]) (S' := [.int 105, .int 1, .ref a4, .ref a4, .ref v0]) rfl ?_
  refine zco_castore (zdk (cc := cX12_init) (q := (1319, .castore, 1)) tkX12_init_q14 33 rfl) ?_
  refine zco_p tkX12_init_q14 34 3 (pc' := 1324) (L' := [(0, .ref v0)]) (S' := [.int 110, .int 2, .ref a4, .ref a4, .ref v0]) rfl ?_
  refine zco_castore (zdk (cc := cX12_init) (q := (1324, .castore, 1)) tkX12_init_q14 37 rfl) ?_
  refine zco_prF fl_12_207 (Or.inr ⟨_, rfl⟩) rfl rfl (by decide +kernel) (zdk (cc := cX12_init) (q := (1325, .putfield 207, 3)) tkX12_init_q14 38 rfl) ?_
  exact zco_sub [0] rfl (coX12_init_J1328 l e he v0)
set_option maxHeartbeats 2000000 in
set_option maxRecDepth 20000 in
theorem coX12_init_J1164 (l : Launch) (e : Nat) (he : 0 ≤ e) (v0 : Nat) : zCo l (e + 1) 26 5377 iX12_init 1164 [(0, .ref v0)] [] (X12_init_J1164 v0) := by
  unfold X12_init_J1164
  refine zco_p tkX12_init_q12 47 2 (pc' := 1166) (L' := [(0, .ref v0)]) (S' := [.int 4, .ref v0]) rfl ?_
  refine zco_newa_char (N := 4) q_1737 (by decide) (by decide +kernel) (by decide) (zdk (cc := cX12_init) (q := (1166, .newarray .char, 2)) tkX12_init_q12 49 rfl) (fun a1 => ?_)
  refine zco_p tkX12_init_q12 50 3 (pc' := 1172) (L' := [(0, .ref v0)]) (S' := [.int 109, .int 0, .ref a1, .ref a1, .ref v0]) rfl ?_
  refine zco_castore (zdk (cc := cX12_init) (q := (1172, .castore, 1)) tkX12_init_q12 53 rfl) ?_
  refine zco_p tkX12_init_q12 54 3 (pc' := 1177) (L' := [(0, .ref v0)]) (S' := [.int 111, .int 1, .ref a1, .ref a1, .ref v0]) rfl ?_
  refine zco_castore (zdk (cc := cX12_init) (q := (1177, .castore, 1)) tkX12_init_q12 57 rfl) ?_
  refine zco_p tkX12_init_q12 58 3 (pc' := 1182) (L' := [(0, .ref v0)]) (S' := [.int 115, .int 2, .ref a1, .ref a1, .ref v0]) rfl ?_
  refine zco_castore (zdk (cc := cX12_init) (q := (1182, .castore, 1)) tkX12_init_q12 61 rfl) ?_
  refine zco_p tkX12_init_q12 62 2 (pc' := 1185) (L' := [(0, .ref v0)]) (S' := [.int 3, .ref a1, .ref a1, .ref v0]) rfl ?_
  refine zco_p tkX12_init_q13 0 1 (pc' := 1187) (L' := [(0, .ref v0)]) (S' := [.int 116, .int 3, .ref a1, .ref a1, .ref v0]) rfl ?_
  refine zco_castore (zdk (cc := cX12_init) (q := (1187, .castore, 1)) tkX12_init_q13 1 rfl) ?_
  refine zco_prF fl_12_189 (Or.inr ⟨_, rfl⟩) rfl rfl (by decide +kernel) (zdk (cc := cX12_init) (q := (1188, .putfield 189, 3)) tkX12_init_q13 2 rfl) ?_
  refine zco_p tkX12_init_q13 3 2 (pc' := 1193) (L' := [(0, .ref v0)]) (S' := [.int 5, .ref v0]) rfl ?_
  refine zco_newa_char (N := 5) q_1737 (by decide) (by decide +kernel) (by decide) (zdk (cc := cX12_init) (q := (1193, .newarray .char, 2)) tkX12_init_q13 5 rfl) (fun a2 => ?_)
  refine zco_p tkX12_init_q13 6 3 (pc' := 1199) (L' := [(0, .ref v0)]) (S' := [.int 108, .int 0, .ref a2, .ref a2, .ref v0]) rfl ?_
  refine zco_castore (zdk (cc := cX12_init) (q := (1199, .castore, 1)) tkX12_init_q13 9 rfl) ?_
  refine zco_p tkX12_init_q13 10 3 (pc' := 1204) (L' := [(0, .ref v0)]) (S' := [.int 101, .int 1, .ref a2, .ref a2, .ref v0]) rfl ?_
  refine zco_castore (zdk (cc := cX12_init) (q := (1204, .castore, 1)) tkX12_init_q13 13 rfl) ?_
  refine zco_p tkX12_init_q13 14 3 (pc' := 1209) (L' := [(0, .ref v0)]) (S' := [.int 97, .int 2, .ref a2, .ref a2, .ref v0]) rfl ?_
  refine zco_castore (zdk (cc := cX12_init) (q := (1209, .castore, 1)) tkX12_init_q13 17 rfl) ?_
  refine zco_p tkX12_init_q13 18 3 (pc' := 1214) (L' := [(0, .ref v0)]) (S' := [.int 115, .int 3, .ref a2, .ref a2, .ref v0]) rfl ?_
  refine zco_castore (zdk (cc := cX12_init) (q := (1214, .castore, 1)) tkX12_init_q13 21 rfl) ?_
  refine zco_p tkX12_init_q13 22 3 (pc' := 1219) (L' := [(0, .ref v0)]) (S' := [.int 116, .int 4, .ref a2, .ref a2, .ref v0]) rfl ?_
  refine zco_castore (zdk (cc := cX12_init) (q := (1219, .castore, 1)) tkX12_init_q13 25 rfl) ?_
  refine zco_prF fl_12_192 (Or.inr ⟨_, rfl⟩) rfl rfl (by decide +kernel) (zdk (cc := cX12_init) (q := (1220, .putfield 192, 3)) tkX12_init_q13 26 rfl) ?_
  refine zco_p tkX12_init_q13 27 2 (pc' := 1225) (L' := [(0, .ref v0)]) (S' := [.int 3, .ref v0]) rfl ?_
  refine zco_newa_char (N := 3) q_1737 (by decide) (by decide +kernel) (by decide) (zdk (cc := cX12_init) (q := (1225, .newarray .char, 2)) tkX12_init_q13 29 rfl) (fun a3 => ?_)
  refine zco_p tkX12_init_q13 30 3 (pc' := 1231) (L' := [(0, .ref v0)]) (S' := [.int 110, .int 0, .ref a3, .ref a3, .ref v0]) rfl ?_
  refine zco_castore (zdk (cc := cX12_init) (q := (1231, .castore, 1)) tkX12_init_q13 33 rfl) ?_
  refine zco_p tkX12_init_q13 34 3 (pc' := 1236) (L' := [(0, .ref v0)]) (S' := [.int 111, .int 1, .ref a3, .ref a3, .ref v0]) rfl ?_
  refine zco_castore (zdk (cc := cX12_init) (q := (1236, .castore, 1)) tkX12_init_q13 37 rfl) ?_
  refine zco_p tkX12_init_q13 38 3 (pc' := 1241) (L' := [(0, .ref v0)]) (S' := [.int 116, .int 2, .ref a3, .ref a3, .ref v0]) rfl ?_
  refine zco_castore (zdk (cc := cX12_init) (q := (1241, .castore, 1)) tkX12_init_q13 41 rfl) ?_
  refine zco_prF fl_12_195 (Or.inr ⟨_, rfl⟩) rfl rfl (by decide +kernel) (zdk (cc := cX12_init) (q := (1242, .putfield 195, 3)) tkX12_init_q13 42 rfl) ?_
  exact zco_sub [0] rfl (coX12_init_J1245 l e he v0)
set_option maxHeartbeats 2000000 in
set_option maxRecDepth 20000 in
theorem coX12_init_J1100 (l : Launch) (e : Nat) (he : 0 ≤ e) (v0 : Nat) : zCo l (e + 1) 28 5387 iX12_init 1100 [(0, .ref v0)] [] (X12_init_J1100 v0) := by
  unfold X12_init_J1100
  refine zco_p tkX12_init_q11 63 1 (pc' := 1101) (L' := [(0, .ref v0)]) (S' := [.ref v0]) rfl ?_
  refine zco_p tkX12_init_q12 0 1 (pc' := 1102) (L' := [(0, .ref v0)]) (S' := [.int 5, .ref v0]) rfl ?_
  refine zco_newa_char (N := 5) q_1737 (by decide) (by decide +kernel) (by decide) (zdk (cc := cX12_init) (q := (1102, .newarray .char, 2)) tkX12_init_q12 1 rfl) (fun a1 => ?_)
  refine zco_p tkX12_init_q12 2 3 (pc' := 1108) (L' := [(0, .ref v0)]) (S' := [.int 111, .int 0, .ref a1, .ref a1, .ref v0]) rfl ?_
  refine zco_castore (zdk (cc := cX12_init) (q := (1108, .castore, 1)) tkX12_init_q12 5 rfl) ?_
  refine zco_p tkX12_init_q12 6 3 (pc' := 1113) (L' := [(0, .ref v0)]) (S' := [.int 102, .int 1, .ref a1, .ref a1, .ref v0]) rfl ?_
  refine zco_castore (zdk (cc := cX12_init) (q := (1113, .castore, 1)) tkX12_init_q12 9 rfl) ?_
  refine zco_p tkX12_init_q12 10 3 (pc' := 1118) (L' := [(0, .ref v0)]) (S' := [.int 116, .int 2, .ref a1, .ref a1, .ref v0]) rfl ?_
  refine zco_castore (zdk (cc := cX12_init) (q := (1118, .castore, 1)) tkX12_init_q12 13 rfl) ?_
  refine zco_p tkX12_init_q12 14 3 (pc' := 1123) (L' := [(0, .ref v0)]) (S' := [.int 101, .int 3, .ref a1, .ref a1, .ref v0]) rfl ?_
  refine zco_castore (zdk (cc := cX12_init) (q := (1123, .castore, 1)) tkX12_init_q12 17 rfl) ?_
  refine zco_p tkX12_init_q12 18 3 (pc' := 1128) (L' := [(0, .ref v0)]) (S' := [.int 110, .int 4, .ref a1, .ref a1, .ref v0]) rfl ?_
  refine zco_castore (zdk (cc := cX12_init) (q := (1128, .castore, 1)) tkX12_init_q12 21 rfl) ?_
  refine zco_prF fl_12_183 (Or.inr ⟨_, rfl⟩) rfl rfl (by decide +kernel) (zdk (cc := cX12_init) (q := (1129, .putfield 183, 3)) tkX12_init_q12 22 rfl) ?_
  refine zco_p tkX12_init_q12 23 2 (pc' := 1134) (L' := [(0, .ref v0)]) (S' := [.int 5, .ref v0]) rfl ?_
  refine zco_newa_char (N := 5) q_1737 (by decide) (by decide +kernel) (by decide) (zdk (cc := cX12_init) (q := (1134, .newarray .char, 2)) tkX12_init_q12 25 rfl) (fun a2 => ?_)
  refine zco_p tkX12_init_q12 26 3 (pc' := 1140) (L' := [(0, .ref v0)]) (S' := [.int 116, .int 0, .ref a2, .ref a2, .ref v0]) rfl ?_
  refine zco_castore (zdk (cc := cX12_init) (q := (1140, .castore, 1)) tkX12_init_q12 29 rfl) ?_
  refine zco_p tkX12_init_q12 30 3 (pc' := 1145) (L' := [(0, .ref v0)]) (S' := [.int 111, .int 1, .ref a2, .ref a2, .ref v0]) rfl ?_
  refine zco_castore (zdk (cc := cX12_init) (q := (1145, .castore, 1)) tkX12_init_q12 33 rfl) ?_
  refine zco_p tkX12_init_q12 34 3 (pc' := 1150) (L' := [(0, .ref v0)]) (S' := [.int 116, .int 2, .ref a2, .ref a2, .ref v0]) rfl ?_
  refine zco_castore (zdk (cc := cX12_init) (q := (1150, .castore, 1)) tkX12_init_q12 37 rfl) ?_
  refine zco_p tkX12_init_q12 38 3 (pc' := 1155) (L' := [(0, .ref v0)]) (S' := [.int 97, .int 3, .ref a2, .ref a2, .ref v0]) rfl ?_
  refine zco_castore (zdk (cc := cX12_init) (q := (1155, .castore, 1)) tkX12_init_q12 41 rfl) ?_
  refine zco_p tkX12_init_q12 42 3 (pc' := 1160) (L' := [(0, .ref v0)]) (S' := [.int 108, .int 4, .ref a2, .ref a2, .ref v0]) rfl ?_
  refine zco_castore (zdk (cc := cX12_init) (q := (1160, .castore, 1)) tkX12_init_q12 45 rfl) ?_
  refine zco_prF fl_12_186 (Or.inr ⟨_, rfl⟩) rfl rfl (by decide +kernel) (zdk (cc := cX12_init) (q := (1161, .putfield 186, 3)) tkX12_init_q12 46 rfl) ?_
  exact zco_sub [0] rfl (coX12_init_J1164 l e he v0)
set_option maxHeartbeats 2000000 in
set_option maxRecDepth 20000 in
theorem coX12_init_J1010 (l : Launch) (e : Nat) (he : 0 ≤ e) (v0 : Nat) : zCo l (e + 1) 33 12614 iX12_init 1010 [(0, .ref v0)] [] (X12_init_J1010 v0) := by
  unfold X12_init_J1010
  refine zco_p tkX12_init_q11 4 2 (pc' := 1013) (L' := [(0, .ref v0)]) (S' := [.int 48, .ref v0]) rfl ?_
  refine zco_newa_int (N := 48) q_202 (by decide) (by decide +kernel) (by decide) (zdk (cc := cX12_init) (q := (1013, .newarray .int, 2)) tkX12_init_q11 6 rfl) (fun a1 => ?_)
  refine zco_prF fl_12_164 (Or.inr ⟨_, rfl⟩) rfl rfl (by decide +kernel) (zdk (cc := cX12_init) (q := (1015, .putfield 164, 3)) tkX12_init_q11 7 rfl) ?_
  refine zco_p tkX12_init_q11 8 2 (pc' := 1022) (L' := [(0, .ref v0)]) (S' := [.int 310, .ref v0]) rfl ?_
  refine zco_newa_int (N := 310) q_202 (by decide) (by decide +kernel) (by decide) (zdk (cc := cX12_init) (q := (1022, .newarray .int, 2)) tkX12_init_q11 10 rfl) (fun a2 => ?_)
  refine zco_prF fl_12_167 (Or.inr ⟨_, rfl⟩) rfl rfl (by decide +kernel) (zdk (cc := cX12_init) (q := (1024, .putfield 167, 3)) tkX12_init_q11 11 rfl) ?_
  refine zco_p tkX12_init_q11 12 2 (pc' := 1031) (L' := [(0, .ref v0)]) (S' := [.int 6860, .ref v0]) rfl ?_
  refine zco_newa_int (N := 6860) q_202 (by decide) (by decide +kernel) (by decide) (zdk (cc := cX12_init) (q := (1031, .newarray .int, 2)) tkX12_init_q11 14 rfl) (fun a3 => ?_)
  refine zco_prF fl_12_170 (Or.inr ⟨_, rfl⟩) rfl rfl (by decide +kernel) (zdk (cc := cX12_init) (q := (1033, .putfield 170, 3)) tkX12_init_q11 15 rfl) ?_
  refine zco_p tkX12_init_q11 16 2 (pc' := 1038) (L' := [(0, .ref v0)]) (S' := [.long 1, .ref v0]) rfl ?_
  refine zco_pl fl_12_173 rfl rfl (zdk (cc := cX12_init) (q := (1038, .putfield 173, 3)) tkX12_init_q11 18 rfl) ?_
  refine zco_p tkX12_init_q11 19 2 (pc' := 1043) (L' := [(0, .ref v0)]) (S' := [.int 5, .ref v0]) rfl ?_
  refine zco_newa_char (N := 5) q_1737 (by decide) (by decide +kernel) (by decide) (zdk (cc := cX12_init) (q := (1043, .newarray .char, 2)) tkX12_init_q11 21 rfl) (fun a4 => ?_)
  refine zco_p tkX12_init_q11 22 3 (pc' := 1049) (L' := [(0, .ref v0)]) (S' := [.int 102, .int 0, .ref a4, .ref a4, .ref v0]) rfl ?_
  refine zco_castore (zdk (cc := cX12_init) (q := (1049, .castore, 1)) tkX12_init_q11 25 rfl) ?_
  refine zco_p tkX12_init_q11 26 3 (pc' := 1054) (L' := [(0, .ref v0)]) (S' := [.int 105, .int 1, .ref a4, .ref a4, .ref v0]) rfl ?_
  refine zco_castore (zdk (cc := cX12_init) (q := (1054, .castore, 1)) tkX12_init_q11 29 rfl) ?_
  refine zco_p tkX12_init_q11 30 3 (pc' := 1059) (L' := [(0, .ref v0)]) (S' := [.int 114, .int 2, .ref a4, .ref a4, .ref v0]) rfl ?_
  refine zco_castore (zdk (cc := cX12_init) (q := (1059, .castore, 1)) tkX12_init_q11 33 rfl) ?_
  refine zco_p tkX12_init_q11 34 3 (pc' := 1064) (L' := [(0, .ref v0)]) (S' := [.int 115, .int 3, .ref a4, .ref a4, .ref v0]) rfl ?_
  refine zco_castore (zdk (cc := cX12_init) (q := (1064, .castore, 1)) tkX12_init_q11 37 rfl) ?_
  refine zco_p tkX12_init_q11 38 3 (pc' := 1069) (L' := [(0, .ref v0)]) (S' := [.int 116, .int 4, .ref a4, .ref a4, .ref v0]) rfl ?_
  refine zco_castore (zdk (cc := cX12_init) (q := (1069, .castore, 1)) tkX12_init_q11 41 rfl) ?_
  refine zco_prF fl_12_177 (Or.inr ⟨_, rfl⟩) rfl rfl (by decide +kernel) (zdk (cc := cX12_init) (q := (1070, .putfield 177, 3)) tkX12_init_q11 42 rfl) ?_
  refine zco_p tkX12_init_q11 43 2 (pc' := 1075) (L' := [(0, .ref v0)]) (S' := [.int 4, .ref v0]) rfl ?_
  refine zco_newa_char (N := 4) q_1737 (by decide) (by decide +kernel) (by decide) (zdk (cc := cX12_init) (q := (1075, .newarray .char, 2)) tkX12_init_q11 45 rfl) (fun a5 => ?_)
  refine zco_p tkX12_init_q11 46 3 (pc' := 1081) (L' := [(0, .ref v0)]) (S' := [.int 108, .int 0, .ref a5, .ref a5, .ref v0]) rfl ?_
  refine zco_castore (zdk (cc := cX12_init) (q := (1081, .castore, 1)) tkX12_init_q11 49 rfl) ?_
  refine zco_p tkX12_init_q11 50 3 (pc' := 1086) (L' := [(0, .ref v0)]) (S' := [.int 97, .int 1, .ref a5, .ref a5, .ref v0]) rfl ?_
  refine zco_castore (zdk (cc := cX12_init) (q := (1086, .castore, 1)) tkX12_init_q11 53 rfl) ?_
  refine zco_p tkX12_init_q11 54 3 (pc' := 1091) (L' := [(0, .ref v0)]) (S' := [.int 115, .int 2, .ref a5, .ref a5, .ref v0]) rfl ?_
  refine zco_castore (zdk (cc := cX12_init) (q := (1091, .castore, 1)) tkX12_init_q11 57 rfl) ?_
  refine zco_p tkX12_init_q11 58 3 (pc' := 1096) (L' := [(0, .ref v0)]) (S' := [.int 116, .int 3, .ref a5, .ref a5, .ref v0]) rfl ?_
  refine zco_castore (zdk (cc := cX12_init) (q := (1096, .castore, 1)) tkX12_init_q11 61 rfl) ?_
  refine zco_prF fl_12_180 (Or.inr ⟨_, rfl⟩) rfl rfl (by decide +kernel) (zdk (cc := cX12_init) (q := (1097, .putfield 180, 3)) tkX12_init_q11 62 rfl) ?_
  exact zco_sub [0] rfl (coX12_init_J1100 l e he v0)
set_option maxHeartbeats 2000000 in
set_option maxRecDepth 20000 in
theorem coX12_init_J913 (l : Launch) (e : Nat) (he : 0 ≤ e) (v0 : Nat) : zCo l (e + 1) 44 16889 iX12_init 913 [(0, .ref v0)] [] (X12_init_J913 v0) := by
  unfold X12_init_J913
  refine zco_p tkX12_init_q10 21 2 (pc' := 916) (L' := [(0, .ref v0)]) (S' := [.int 6, .ref v0]) rfl ?_
  refine zco_newa_int (N := 6) q_202 (by decide) (by decide +kernel) (by decide) (zdk (cc := cX12_init) (q := (916, .newarray .int, 2)) tkX12_init_q10 23 rfl) (fun a1 => ?_)
  refine zco_prF fl_12_128 (Or.inr ⟨_, rfl⟩) rfl rfl (by decide +kernel) (zdk (cc := cX12_init) (q := (918, .putfield 128, 3)) tkX12_init_q10 24 rfl) ?_
  refine zco_p tkX12_init_q10 25 2 (pc' := 925) (L' := [(0, .ref v0)]) (S' := [.int 3200, .ref v0]) rfl ?_
  refine zco_newa_int (N := 3200) q_202 (by decide) (by decide +kernel) (by decide) (zdk (cc := cX12_init) (q := (925, .newarray .int, 2)) tkX12_init_q10 27 rfl) (fun a2 => ?_)
  refine zco_prF fl_12_131 (Or.inr ⟨_, rfl⟩) rfl rfl (by decide +kernel) (zdk (cc := cX12_init) (q := (927, .putfield 131, 3)) tkX12_init_q10 28 rfl) ?_
  refine zco_p tkX12_init_q10 29 2 (pc' := 934) (L' := [(0, .ref v0)]) (S' := [.int 343, .ref v0]) rfl ?_
  refine zco_newa_int (N := 343) q_202 (by decide) (by decide +kernel) (by decide) (zdk (cc := cX12_init) (q := (934, .newarray .int, 2)) tkX12_init_q10 31 rfl) (fun a3 => ?_)
  refine zco_prF fl_12_134 (Or.inr ⟨_, rfl⟩) rfl rfl (by decide +kernel) (zdk (cc := cX12_init) (q := (936, .putfield 134, 3)) tkX12_init_q10 32 rfl) ?_
  refine zco_p tkX12_init_q10 33 2 (pc' := 941) (L' := [(0, .ref v0)]) (S' := [.int ((-1)), .ref v0]) rfl ?_
  refine zco_pi fl_12_137 rfl rfl (zdk (cc := cX12_init) (q := (941, .putfield 137, 3)) tkX12_init_q10 35 rfl) ?_
  refine zco_p tkX12_init_q10 36 2 (pc' := 947) (L' := [(0, .ref v0)]) (S' := [.int 12, .ref v0]) rfl ?_
  refine zco_newa_int (N := 12) q_202 (by decide) (by decide +kernel) (by decide) (zdk (cc := cX12_init) (q := (947, .newarray .int, 2)) tkX12_init_q10 38 rfl) (fun a4 => ?_)
  refine zco_prF fl_12_140 (Or.inr ⟨_, rfl⟩) rfl rfl (by decide +kernel) (zdk (cc := cX12_init) (q := (949, .putfield 140, 3)) tkX12_init_q10 39 rfl) ?_
  refine zco_p tkX12_init_q10 40 2 (pc' := 955) (L' := [(0, .ref v0)]) (S' := [.int 12, .ref v0]) rfl ?_
  refine zco_newa_int (N := 12) q_202 (by decide) (by decide +kernel) (by decide) (zdk (cc := cX12_init) (q := (955, .newarray .int, 2)) tkX12_init_q10 42 rfl) (fun a5 => ?_)
  refine zco_prF fl_12_143 (Or.inr ⟨_, rfl⟩) rfl rfl (by decide +kernel) (zdk (cc := cX12_init) (q := (957, .putfield 143, 3)) tkX12_init_q10 43 rfl) ?_
  refine zco_p tkX12_init_q10 44 2 (pc' := 964) (L' := [(0, .ref v0)]) (S' := [.int 182, .ref v0]) rfl ?_
  refine zco_newa_int (N := 182) q_202 (by decide) (by decide +kernel) (by decide) (zdk (cc := cX12_init) (q := (964, .newarray .int, 2)) tkX12_init_q10 46 rfl) (fun a6 => ?_)
  refine zco_prF fl_12_146 (Or.inr ⟨_, rfl⟩) rfl rfl (by decide +kernel) (zdk (cc := cX12_init) (q := (966, .putfield 146, 3)) tkX12_init_q10 47 rfl) ?_
  refine zco_p tkX12_init_q10 48 2 (pc' := 972) (L' := [(0, .ref v0)]) (S' := [.int 12, .ref v0]) rfl ?_
  refine zco_newa_bool (N := 12) q_370 (by decide) (by decide +kernel) (by decide) (zdk (cc := cX12_init) (q := (972, .newarray .boolean, 2)) tkX12_init_q10 50 rfl) (fun a7 => ?_)
  refine zco_prF fl_12_149 (Or.inr ⟨_, rfl⟩) rfl rfl (by decide +kernel) (zdk (cc := cX12_init) (q := (974, .putfield 149, 3)) tkX12_init_q10 51 rfl) ?_
  refine zco_p tkX12_init_q10 52 2 (pc' := 980) (L' := [(0, .ref v0)]) (S' := [.int 12, .ref v0]) rfl ?_
  refine zco_newa_int (N := 12) q_202 (by decide) (by decide +kernel) (by decide) (zdk (cc := cX12_init) (q := (980, .newarray .int, 2)) tkX12_init_q10 54 rfl) (fun a8 => ?_)
  refine zco_prF fl_12_152 (Or.inr ⟨_, rfl⟩) rfl rfl (by decide +kernel) (zdk (cc := cX12_init) (q := (982, .putfield 152, 3)) tkX12_init_q10 55 rfl) ?_
  refine zco_p tkX12_init_q10 56 2 (pc' := 989) (L' := [(0, .ref v0)]) (S' := [.int 448, .ref v0]) rfl ?_
  refine zco_newa_int (N := 448) q_202 (by decide) (by decide +kernel) (by decide) (zdk (cc := cX12_init) (q := (989, .newarray .int, 2)) tkX12_init_q10 58 rfl) (fun a9 => ?_)
  refine zco_prF fl_12_155 (Or.inr ⟨_, rfl⟩) rfl rfl (by decide +kernel) (zdk (cc := cX12_init) (q := (991, .putfield 155, 3)) tkX12_init_q10 59 rfl) ?_
  refine zco_p tkX12_init_q10 60 2 (pc' := 997) (L' := [(0, .ref v0)]) (S' := [.int 12, .ref v0]) rfl ?_
  refine zco_newa_int (N := 12) q_202 (by decide) (by decide +kernel) (by decide) (zdk (cc := cX12_init) (q := (997, .newarray .int, 2)) tkX12_init_q10 62 rfl) (fun a10 => ?_)
  refine zco_prF fl_12_158 (Or.inr ⟨_, rfl⟩) rfl rfl (by decide +kernel) (zdk (cc := cX12_init) (q := (999, .putfield 158, 3)) tkX12_init_q10 63 rfl) ?_
  refine zco_p tkX12_init_q11 0 2 (pc' := 1005) (L' := [(0, .ref v0)]) (S' := [.int 36, .ref v0]) rfl ?_
  refine zco_newa_bool (N := 36) q_370 (by decide) (by decide +kernel) (by decide) (zdk (cc := cX12_init) (q := (1005, .newarray .boolean, 2)) tkX12_init_q11 2 rfl) (fun a11 => ?_)
  refine zco_prF fl_12_161 (Or.inr ⟨_, rfl⟩) rfl rfl (by decide +kernel) (zdk (cc := cX12_init) (q := (1007, .putfield 161, 3)) tkX12_init_q11 3 rfl) ?_
  exact zco_sub [0] rfl (coX12_init_J1010 l e he v0)
set_option maxHeartbeats 2000000 in
set_option maxRecDepth 20000 in
theorem coX12_init_J833 (l : Launch) (e : Nat) (he : 0 ≤ e) (v0 : Nat) : zCo l (e + 1) 51 17219 iX12_init 833 [(0, .ref v0)] [] (X12_init_J833 v0) := by
  unfold X12_init_J833
  refine zco_p tkX12_init_q9 33 2 (pc' := 836) (L' := [(0, .ref v0)]) (S' := [.int 12, .ref v0]) rfl ?_
  refine zco_newa_int (N := 12) q_202 (by decide) (by decide +kernel) (by decide) (zdk (cc := cX12_init) (q := (836, .newarray .int, 2)) tkX12_init_q9 35 rfl) (fun a1 => ?_)
  refine zco_prF fl_12_105 (Or.inr ⟨_, rfl⟩) rfl rfl (by decide +kernel) (zdk (cc := cX12_init) (q := (838, .putfield 105, 3)) tkX12_init_q9 36 rfl) ?_
  refine zco_p tkX12_init_q9 37 2 (pc' := 844) (L' := [(0, .ref v0)]) (S' := [.int 24, .ref v0]) rfl ?_
  refine zco_newa_long (N := 24) q_1738 (by decide) (by decide +kernel) (by decide) (zdk (cc := cX12_init) (q := (844, .newarray .long, 2)) tkX12_init_q9 39 rfl) (fun a2 => ?_)
  refine zco_prF fl_12_108 (Or.inr ⟨_, rfl⟩) rfl rfl (by decide +kernel) (zdk (cc := cX12_init) (q := (846, .putfield 108, 3)) tkX12_init_q9 40 rfl) ?_
  refine zco_p tkX12_init_q9 41 2 (pc' := 852) (L' := [(0, .ref v0)]) (S' := [.int 72, .ref v0]) rfl ?_
  refine zco_newa_int (N := 72) q_202 (by decide) (by decide +kernel) (by decide) (zdk (cc := cX12_init) (q := (852, .newarray .int, 2)) tkX12_init_q9 43 rfl) (fun a3 => ?_)
  refine zco_prF fl_12_112 (Or.inr ⟨_, rfl⟩) rfl rfl (by decide +kernel) (zdk (cc := cX12_init) (q := (854, .putfield 112, 3)) tkX12_init_q9 44 rfl) ?_
  refine zco_p tkX12_init_q9 45 2 (pc' := 860) (L' := [(0, .ref v0)]) (S' := [.int 72, .ref v0]) rfl ?_
  refine zco_newa_bool (N := 72) q_370 (by decide) (by decide +kernel) (by decide) (zdk (cc := cX12_init) (q := (860, .newarray .boolean, 2)) tkX12_init_q9 47 rfl) (fun a4 => ?_)
  refine zco_prF fl_12_115 (Or.inr ⟨_, rfl⟩) rfl rfl (by decide +kernel) (zdk (cc := cX12_init) (q := (862, .putfield 115, 3)) tkX12_init_q9 48 rfl) ?_
  refine zco_p tkX12_init_q9 49 2 (pc' := 868) (L' := [(0, .ref v0)]) (S' := [.int 72, .ref v0]) rfl ?_
  refine zco_newa_int (N := 72) q_202 (by decide) (by decide +kernel) (by decide) (zdk (cc := cX12_init) (q := (868, .newarray .int, 2)) tkX12_init_q9 51 rfl) (fun a5 => ?_)
  refine zco_prF fl_12_119 (Or.inr ⟨_, rfl⟩) rfl rfl (by decide +kernel) (zdk (cc := cX12_init) (q := (870, .putfield 119, 3)) tkX12_init_q9 52 rfl) ?_
  refine zco_p tkX12_init_q9 53 2 (pc' := 876) (L' := [(0, .ref v0)]) (S' := [.int 72, .ref v0]) rfl ?_
  refine zco_newa_int (N := 72) q_202 (by decide) (by decide +kernel) (by decide) (zdk (cc := cX12_init) (q := (876, .newarray .int, 2)) tkX12_init_q9 55 rfl) (fun a6 => ?_)
  refine zco_prF fl_12_122 (Or.inr ⟨_, rfl⟩) rfl rfl (by decide +kernel) (zdk (cc := cX12_init) (q := (878, .putfield 122, 3)) tkX12_init_q9 56 rfl) ?_
  refine zco_p tkX12_init_q9 57 2 (pc' := 884) (L' := [(0, .ref v0)]) (S' := [.int 6, .ref v0]) rfl ?_
  refine zco_newa_int (N := 6) q_202 (by decide) (by decide +kernel) (by decide) (zdk (cc := cX12_init) (q := (884, .newarray .int, 2)) tkX12_init_q9 59 rfl) (fun a7 => ?_)
  refine zco_p tkX12_init_q9 60 3 (pc' := 889) (L' := [(0, .ref v0)]) (S' := [.int ((-1)), .int 0, .ref a7, .ref a7, .ref v0]) rfl ?_
  refine zco_iastore (zdk (cc := cX12_init) (q := (889, .iastore, 1)) tkX12_init_q9 63 rfl) ?_
  refine zco_p tkX12_init_q10 0 3 (pc' := 893) (L' := [(0, .ref v0)]) (S' := [.int ((-1)), .int 1, .ref a7, .ref a7, .ref v0]) rfl ?_
  refine zco_iastore (zdk (cc := cX12_init) (q := (893, .iastore, 1)) tkX12_init_q10 3 rfl) ?_
  refine zco_p tkX12_init_q10 4 3 (pc' := 897) (L' := [(0, .ref v0)]) (S' := [.int ((-1)), .int 2, .ref a7, .ref a7, .ref v0]) rfl ?_
  refine zco_iastore (zdk (cc := cX12_init) (q := (897, .iastore, 1)) tkX12_init_q10 7 rfl) ?_
  refine zco_p tkX12_init_q10 8 3 (pc' := 901) (L' := [(0, .ref v0)]) (S' := [.int ((-1)), .int 3, .ref a7, .ref a7, .ref v0]) rfl ?_
  refine zco_iastore (zdk (cc := cX12_init) (q := (901, .iastore, 1)) tkX12_init_q10 11 rfl) ?_
  refine zco_p tkX12_init_q10 12 3 (pc' := 905) (L' := [(0, .ref v0)]) (S' := [.int ((-1)), .int 4, .ref a7, .ref a7, .ref v0]) rfl ?_
  refine zco_iastore (zdk (cc := cX12_init) (q := (905, .iastore, 1)) tkX12_init_q10 15 rfl) ?_
  refine zco_p tkX12_init_q10 16 3 (pc' := 909) (L' := [(0, .ref v0)]) (S' := [.int ((-1)), .int 5, .ref a7, .ref a7, .ref v0]) rfl ?_
  refine zco_iastore (zdk (cc := cX12_init) (q := (909, .iastore, 1)) tkX12_init_q10 19 rfl) ?_
  refine zco_prF fl_12_125 (Or.inr ⟨_, rfl⟩) rfl rfl (by decide +kernel) (zdk (cc := cX12_init) (q := (910, .putfield 125, 3)) tkX12_init_q10 20 rfl) ?_
  exact zco_sub [0] rfl (coX12_init_J913 l e he v0)
set_option maxHeartbeats 2000000 in
set_option maxRecDepth 20000 in
theorem coX12_init_J767 (l : Launch) (e : Nat) (he : 0 ≤ e) (v0 : Nat) : zCo l (e + 1) 54 17228 iX12_init 767 [(0, .ref v0)] [] (X12_init_J767 v0) := by
  unfold X12_init_J767
  refine zco_p tkX12_init_q8 49 2 (pc' := 769) (L' := [(0, .ref v0)]) (S' := [.int 3, .ref v0]) rfl ?_
  refine zco_newa_char (N := 3) q_1737 (by decide) (by decide +kernel) (by decide) (zdk (cc := cX12_init) (q := (769, .newarray .char, 2)) tkX12_init_q8 51 rfl) (fun a1 => ?_)
  refine zco_p tkX12_init_q8 52 3 (pc' := 775) (L' := [(0, .ref v0)]) (S' := [.int 97, .int 0, .ref a1, .ref a1, .ref v0]) rfl ?_
  refine zco_castore (zdk (cc := cX12_init) (q := (775, .castore, 1)) tkX12_init_q8 55 rfl) ?_
  refine zco_p tkX12_init_q8 56 3 (pc' := 780) (L' := [(0, .ref v0)]) (S' := [.int 108, .int 1, .ref a1, .ref a1, .ref v0]) rfl ?_
  refine zco_castore (zdk (cc := cX12_init) (q := (780, .castore, 1)) tkX12_init_q8 59 rfl) ?_
  refine zco_p tkX12_init_q8 60 3 (pc' := 785) (L' := [(0, .ref v0)]) (S' := [.int 108, .int 2, .ref a1, .ref a1, .ref v0]) rfl ?_
  refine zco_castore (zdk (cc := cX12_init) (q := (785, .castore, 1)) tkX12_init_q8 63 rfl) ?_
  refine zco_prF fl_12_96 (Or.inr ⟨_, rfl⟩) rfl rfl (by decide +kernel) (zdk (cc := cX12_init) (q := (786, .putfield 96, 3)) tkX12_init_q9 0 rfl) ?_
  refine zco_p tkX12_init_q9 1 2 (pc' := 791) (L' := [(0, .ref v0)]) (S' := [.int 3, .ref v0]) rfl ?_
  refine zco_newa_char (N := 3) q_1737 (by decide) (by decide +kernel) (by decide) (zdk (cc := cX12_init) (q := (791, .newarray .char, 2)) tkX12_init_q9 3 rfl) (fun a2 => ?_)
  refine zco_p tkX12_init_q9 4 3 (pc' := 797) (L' := [(0, .ref v0)]) (S' := [.int 109, .int 0, .ref a2, .ref a2, .ref v0]) rfl ?_
  refine zco_castore (zdk (cc := cX12_init) (q := (797, .castore, 1)) tkX12_init_q9 7 rfl) ?_
  refine zco_p tkX12_init_q9 8 3 (pc' := 802) (L' := [(0, .ref v0)]) (S' := [.int 105, .int 1, .ref a2, .ref a2, .ref v0]) rfl ?_
  refine zco_castore (zdk (cc := cX12_init) (q := (802, .castore, 1)) tkX12_init_q9 11 rfl) ?_
  refine zco_p tkX12_init_q9 12 3 (pc' := 807) (L' := [(0, .ref v0)]) (S' := [.int 110, .int 2, .ref a2, .ref a2, .ref v0]) rfl ?_
  refine zco_castore (zdk (cc := cX12_init) (q := (807, .castore, 1)) tkX12_init_q9 15 rfl) ?_
  refine zco_prF fl_12_99 (Or.inr ⟨_, rfl⟩) rfl rfl (by decide +kernel) (zdk (cc := cX12_init) (q := (808, .putfield 99, 3)) tkX12_init_q9 16 rfl) ?_
  refine zco_p tkX12_init_q9 17 2 (pc' := 813) (L' := [(0, .ref v0)]) (S' := [.int 3, .ref v0]) rfl ?_
  refine zco_newa_char (N := 3) q_1737 (by decide) (by decide +kernel) (by decide) (zdk (cc := cX12_init) (q := (813, .newarray .char, 2)) tkX12_init_q9 19 rfl) (fun a3 => ?_)
  refine zco_p tkX12_init_q9 20 3 (pc' := 819) (L' := [(0, .ref v0)]) (S' := [.int 109, .int 0, .ref a3, .ref a3, .ref v0]) rfl ?_
  refine zco_castore (zdk (cc := cX12_init) (q := (819, .castore, 1)) tkX12_init_q9 23 rfl) ?_
  refine zco_p tkX12_init_q9 24 3 (pc' := 824) (L' := [(0, .ref v0)]) (S' := [.int 97, .int 1, .ref a3, .ref a3, .ref v0]) rfl ?_
  refine zco_castore (zdk (cc := cX12_init) (q := (824, .castore, 1)) tkX12_init_q9 27 rfl) ?_
  refine zco_p tkX12_init_q9 28 3 (pc' := 829) (L' := [(0, .ref v0)]) (S' := [.int 120, .int 2, .ref a3, .ref a3, .ref v0]) rfl ?_
  refine zco_castore (zdk (cc := cX12_init) (q := (829, .castore, 1)) tkX12_init_q9 31 rfl) ?_
  refine zco_prF fl_12_102 (Or.inr ⟨_, rfl⟩) rfl rfl (by decide +kernel) (zdk (cc := cX12_init) (q := (830, .putfield 102, 3)) tkX12_init_q9 32 rfl) ?_
  exact zco_sub [0] rfl (coX12_init_J833 l e he v0)
set_option maxHeartbeats 2000000 in
set_option maxRecDepth 20000 in
theorem coX12_init_J684 (l : Launch) (e : Nat) (he : 0 ≤ e) (v0 : Nat) : zCo l (e + 1) 58 17239 iX12_init 684 [(0, .ref v0)] [] (X12_init_J684 v0) := by
  unfold X12_init_J684
  refine zco_p tkX12_init_q7 53 2 (pc' := 686) (L' := [(0, .ref v0)]) (S' := [.int 3, .ref v0]) rfl ?_
  refine zco_newa_char (N := 3) q_1737 (by decide) (by decide +kernel) (by decide) (zdk (cc := cX12_init) (q := (686, .newarray .char, 2)) tkX12_init_q7 55 rfl) (fun a1 => ?_)
  refine zco_p tkX12_init_q7 56 3 (pc' := 692) (L' := [(0, .ref v0)]) (S' := [.int 119, .int 0, .ref a1, .ref a1, .ref v0]) rfl ?_
  refine zco_castore (zdk (cc := cX12_init) (q := (692, .castore, 1)) tkX12_init_q7 59 rfl) ?_
  refine zco_p tkX12_init_q7 60 3 (pc' := 697) (L' := [(0, .ref v0)]) (S' := [.int 101, .int 1, .ref a1, .ref a1, .ref v0]) rfl ?_
  refine zco_castore (zdk (cc := cX12_init) (q := (697, .castore, 1)) tkX12_init_q7 63 rfl) ?_
  refine zco_p tkX12_init_q8 0 3 (pc' := 702) (L' := [(0, .ref v0)]) (S' := [.int 100, .int 2, .ref a1, .ref a1, .ref v0]) rfl ?_
  refine zco_castore (zdk (cc := cX12_init) (q := (702, .castore, 1)) tkX12_init_q8 3 rfl) ?_
  refine zco_prF fl_12_84 (Or.inr ⟨_, rfl⟩) rfl rfl (by decide +kernel) (zdk (cc := cX12_init) (q := (703, .putfield 84, 3)) tkX12_init_q8 4 rfl) ?_
  refine zco_p tkX12_init_q8 5 2 (pc' := 708) (L' := [(0, .ref v0)]) (S' := [.int 2, .ref v0]) rfl ?_
  refine zco_newa_char (N := 2) q_1737 (by decide) (by decide +kernel) (by decide) (zdk (cc := cX12_init) (q := (708, .newarray .char, 2)) tkX12_init_q8 7 rfl) (fun a2 => ?_)
  refine zco_p tkX12_init_q8 8 3 (pc' := 714) (L' := [(0, .ref v0)]) (S' := [.int 111, .int 0, .ref a2, .ref a2, .ref v0]) rfl ?_
  refine zco_castore (zdk (cc := cX12_init) (q := (714, .castore, 1)) tkX12_init_q8 11 rfl) ?_
  refine zco_p tkX12_init_q8 12 3 (pc' := 719) (L' := [(0, .ref v0)]) (S' := [.int 114, .int 1, .ref a2, .ref a2, .ref v0]) rfl ?_
  refine zco_castore (zdk (cc := cX12_init) (q := (719, .castore, 1)) tkX12_init_q8 15 rfl) ?_
  refine zco_prF fl_12_87 (Or.inr ⟨_, rfl⟩) rfl rfl (by decide +kernel) (zdk (cc := cX12_init) (q := (720, .putfield 87, 3)) tkX12_init_q8 16 rfl) ?_
  refine zco_p tkX12_init_q8 17 2 (pc' := 725) (L' := [(0, .ref v0)]) (S' := [.int 3, .ref v0]) rfl ?_
  refine zco_newa_char (N := 3) q_1737 (by decide) (by decide +kernel) (by decide) (zdk (cc := cX12_init) (q := (725, .newarray .char, 2)) tkX12_init_q8 19 rfl) (fun a3 => ?_)
  refine zco_p tkX12_init_q8 20 3 (pc' := 731) (L' := [(0, .ref v0)]) (S' := [.int 97, .int 0, .ref a3, .ref a3, .ref v0]) rfl ?_
  refine zco_castore (zdk (cc := cX12_init) (q := (731, .castore, 1)) tkX12_init_q8 23 rfl) ?_
  refine zco_p tkX12_init_q8 24 3 (pc' := 736) (L' := [(0, .ref v0)]) (S' := [.int 110, .int 1, .ref a3, .ref a3, .ref v0]) rfl ?_
  refine zco_castore (zdk (cc := cX12_init) (q := (736, .castore, 1)) tkX12_init_q8 27 rfl) ?_
  refine zco_p tkX12_init_q8 28 3 (pc' := 741) (L' := [(0, .ref v0)]) (S' := [.int 100, .int 2, .ref a3, .ref a3, .ref v0]) rfl ?_
  refine zco_castore (zdk (cc := cX12_init) (q := (741, .castore, 1)) tkX12_init_q8 31 rfl) ?_
  refine zco_prF fl_12_90 (Or.inr ⟨_, rfl⟩) rfl rfl (by decide +kernel) (zdk (cc := cX12_init) (q := (742, .putfield 90, 3)) tkX12_init_q8 32 rfl) ?_
  refine zco_p tkX12_init_q8 33 2 (pc' := 747) (L' := [(0, .ref v0)]) (S' := [.int 3, .ref v0]) rfl ?_
  refine zco_newa_char (N := 3) q_1737 (by decide) (by decide +kernel) (by decide) (zdk (cc := cX12_init) (q := (747, .newarray .char, 2)) tkX12_init_q8 35 rfl) (fun a4 => ?_)
  refine zco_p tkX12_init_q8 36 3 (pc' := 753) (L' := [(0, .ref v0)]) (S' := [.int 110, .int 0, .ref a4, .ref a4, .ref v0]) rfl ?_
  refine zco_castore (zdk (cc := cX12_init) (q := (753, .castore, 1)) tkX12_init_q8 39 rfl) ?_
  refine zco_p tkX12_init_q8 40 3 (pc' := 758) (L' := [(0, .ref v0)]) (S' := [.int 111, .int 1, .ref a4, .ref a4, .ref v0]) rfl ?_
  refine zco_castore (zdk (cc := cX12_init) (q := (758, .castore, 1)) tkX12_init_q8 43 rfl) ?_
  refine zco_p tkX12_init_q8 44 3 (pc' := 763) (L' := [(0, .ref v0)]) (S' := [.int 116, .int 2, .ref a4, .ref a4, .ref v0]) rfl ?_
  refine zco_castore (zdk (cc := cX12_init) (q := (763, .castore, 1)) tkX12_init_q8 47 rfl) ?_
  refine zco_prF fl_12_93 (Or.inr ⟨_, rfl⟩) rfl rfl (by decide +kernel) (zdk (cc := cX12_init) (q := (764, .putfield 93, 3)) tkX12_init_q8 48 rfl) ?_
  exact zco_sub [0] rfl (coX12_init_J767 l e he v0)
set_option maxHeartbeats 2000000 in
set_option maxRecDepth 20000 in
theorem coX12_init_J619 (l : Launch) (e : Nat) (he : 0 ≤ e) (v0 : Nat) : zCo l (e + 1) 60 17249 iX12_init 619 [(0, .ref v0)] [] (X12_init_J619 v0) := by
  unfold X12_init_J619
  refine zco_p tkX12_init_q7 5 2 (pc' := 622) (L' := [(0, .ref v0)]) (S' := [.int 6, .ref v0]) rfl ?_
  refine zco_newa_char (N := 6) q_1737 (by decide) (by decide +kernel) (by decide) (zdk (cc := cX12_init) (q := (622, .newarray .char, 2)) tkX12_init_q7 7 rfl) (fun a1 => ?_)
  refine zco_p tkX12_init_q7 8 3 (pc' := 628) (L' := [(0, .ref v0)]) (S' := [.int 110, .int 0, .ref a1, .ref a1, .ref v0]) rfl ?_
  refine zco_castore (zdk (cc := cX12_init) (q := (628, .castore, 1)) tkX12_init_q7 11 rfl) ?_
  refine zco_p tkX12_init_q7 12 3 (pc' := 633) (L' := [(0, .ref v0)]) (S' := [.int 117, .int 1, .ref a1, .ref a1, .ref v0]) rfl ?_
  refine zco_castore (zdk (cc := cX12_init) (q := (633, .castore, 1)) tkX12_init_q7 15 rfl) ?_
  refine zco_p tkX12_init_q7 16 3 (pc' := 638) (L' := [(0, .ref v0)]) (S' := [.int 109, .int 2, .ref a1, .ref a1, .ref v0]) rfl ?_
  refine zco_castore (zdk (cc := cX12_init) (q := (638, .castore, 1)) tkX12_init_q7 19 rfl) ?_
  refine zco_p tkX12_init_q7 20 3 (pc' := 643) (L' := [(0, .ref v0)]) (S' := [.int 98, .int 3, .ref a1, .ref a1, .ref v0]) rfl ?_
  refine zco_castore (zdk (cc := cX12_init) (q := (643, .castore, 1)) tkX12_init_q7 23 rfl) ?_
  refine zco_p tkX12_init_q7 24 3 (pc' := 648) (L' := [(0, .ref v0)]) (S' := [.int 101, .int 4, .ref a1, .ref a1, .ref v0]) rfl ?_
  refine zco_castore (zdk (cc := cX12_init) (q := (648, .castore, 1)) tkX12_init_q7 27 rfl) ?_
  refine zco_p tkX12_init_q7 28 3 (pc' := 653) (L' := [(0, .ref v0)]) (S' := [.int 114, .int 5, .ref a1, .ref a1, .ref v0]) rfl ?_
  refine zco_castore (zdk (cc := cX12_init) (q := (653, .castore, 1)) tkX12_init_q7 31 rfl) ?_
  refine zco_prF fl_12_78 (Or.inr ⟨_, rfl⟩) rfl rfl (by decide +kernel) (zdk (cc := cX12_init) (q := (654, .putfield 78, 3)) tkX12_init_q7 32 rfl) ?_
  refine zco_p tkX12_init_q7 33 2 (pc' := 659) (L' := [(0, .ref v0)]) (S' := [.int 4, .ref v0]) rfl ?_
  refine zco_newa_char (N := 4) q_1737 (by decide) (by decide +kernel) (by decide) (zdk (cc := cX12_init) (q := (659, .newarray .char, 2)) tkX12_init_q7 35 rfl) (fun a2 => ?_)
  refine zco_p tkX12_init_q7 36 3 (pc' := 665) (L' := [(0, .ref v0)]) (S' := [.int 115, .int 0, .ref a2, .ref a2, .ref v0]) rfl ?_
  refine zco_castore (zdk (cc := cX12_init) (q := (665, .castore, 1)) tkX12_init_q7 39 rfl) ?_
  refine zco_p tkX12_init_q7 40 3 (pc' := 670) (L' := [(0, .ref v0)]) (S' := [.int 105, .int 1, .ref a2, .ref a2, .ref v0]) rfl ?_
  refine zco_castore (zdk (cc := cX12_init) (q := (670, .castore, 1)) tkX12_init_q7 43 rfl) ?_
  refine zco_p tkX12_init_q7 44 3 (pc' := 675) (L' := [(0, .ref v0)]) (S' := [.int 100, .int 2, .ref a2, .ref a2, .ref v0]) rfl ?_
  refine zco_castore (zdk (cc := cX12_init) (q := (675, .castore, 1)) tkX12_init_q7 47 rfl) ?_
  refine zco_p tkX12_init_q7 48 3 (pc' := 680) (L' := [(0, .ref v0)]) (S' := [.int 101, .int 3, .ref a2, .ref a2, .ref v0]) rfl ?_
  refine zco_castore (zdk (cc := cX12_init) (q := (680, .castore, 1)) tkX12_init_q7 51 rfl) ?_
  refine zco_prF fl_12_81 (Or.inr ⟨_, rfl⟩) rfl rfl (by decide +kernel) (zdk (cc := cX12_init) (q := (681, .putfield 81, 3)) tkX12_init_q7 52 rfl) ?_
  exact zco_sub [0] rfl (coX12_init_J684 l e he v0)
set_option maxHeartbeats 2000000 in
set_option maxRecDepth 20000 in
theorem coX12_init_J543 (l : Launch) (e : Nat) (he : 0 ≤ e) (v0 : Nat) : zCo l (e + 1) 62 17261 iX12_init 543 [(0, .ref v0)] [] (X12_init_J543 v0) := by
  unfold X12_init_J543
  refine zco_p tkX12_init_q6 13 2 (pc' := 546) (L' := [(0, .ref v0)]) (S' := [.int 6, .ref v0]) rfl ?_
  refine zco_newa_char (N := 6) q_1737 (by decide) (by decide +kernel) (by decide) (zdk (cc := cX12_init) (q := (546, .newarray .char, 2)) tkX12_init_q6 15 rfl) (fun a1 => ?_)
  refine zco_p tkX12_init_q6 16 3 (pc' := 552) (L' := [(0, .ref v0)]) (S' := [.int 115, .int 0, .ref a1, .ref a1, .ref v0]) rfl ?_
  refine zco_castore (zdk (cc := cX12_init) (q := (552, .castore, 1)) tkX12_init_q6 19 rfl) ?_
  refine zco_p tkX12_init_q6 20 3 (pc' := 557) (L' := [(0, .ref v0)]) (S' := [.int 112, .int 1, .ref a1, .ref a1, .ref v0]) rfl ?_
  refine zco_castore (zdk (cc := cX12_init) (q := (557, .castore, 1)) tkX12_init_q6 23 rfl) ?_
  refine zco_p tkX12_init_q6 24 3 (pc' := 562) (L' := [(0, .ref v0)]) (S' := [.int 114, .int 2, .ref a1, .ref a1, .ref v0]) rfl ?_
  refine zco_castore (zdk (cc := cX12_init) (q := (562, .castore, 1)) tkX12_init_q6 27 rfl) ?_
  refine zco_p tkX12_init_q6 28 3 (pc' := 567) (L' := [(0, .ref v0)]) (S' := [.int 105, .int 3, .ref a1, .ref a1, .ref v0]) rfl ?_
  refine zco_castore (zdk (cc := cX12_init) (q := (567, .castore, 1)) tkX12_init_q6 31 rfl) ?_
  refine zco_p tkX12_init_q6 32 3 (pc' := 572) (L' := [(0, .ref v0)]) (S' := [.int 110, .int 4, .ref a1, .ref a1, .ref v0]) rfl ?_
  refine zco_castore (zdk (cc := cX12_init) (q := (572, .castore, 1)) tkX12_init_q6 35 rfl) ?_
  refine zco_p tkX12_init_q6 36 3 (pc' := 577) (L' := [(0, .ref v0)]) (S' := [.int 103, .int 5, .ref a1, .ref a1, .ref v0]) rfl ?_
  refine zco_castore (zdk (cc := cX12_init) (q := (577, .castore, 1)) tkX12_init_q6 39 rfl) ?_
  refine zco_prF fl_12_72 (Or.inr ⟨_, rfl⟩) rfl rfl (by decide +kernel) (zdk (cc := cX12_init) (q := (578, .putfield 72, 3)) tkX12_init_q6 40 rfl) ?_
  refine zco_p tkX12_init_q6 41 2 (pc' := 584) (L' := [(0, .ref v0)]) (S' := [.int 6, .ref v0]) rfl ?_
  refine zco_newa_char (N := 6) q_1737 (by decide) (by decide +kernel) (by decide) (zdk (cc := cX12_init) (q := (584, .newarray .char, 2)) tkX12_init_q6 43 rfl) (fun a2 => ?_)
  refine zco_p tkX12_init_q6 44 3 (pc' := 590) (L' := [(0, .ref v0)]) (S' := [.int 119, .int 0, .ref a2, .ref a2, .ref v0]) rfl ?_
  refine zco_castore (zdk (cc := cX12_init) (q := (590, .castore, 1)) tkX12_init_q6 47 rfl) ?_
  refine zco_p tkX12_init_q6 48 3 (pc' := 595) (L' := [(0, .ref v0)]) (S' := [.int 97, .int 1, .ref a2, .ref a2, .ref v0]) rfl ?_
  refine zco_castore (zdk (cc := cX12_init) (q := (595, .castore, 1)) tkX12_init_q6 51 rfl) ?_
  refine zco_p tkX12_init_q6 52 3 (pc' := 600) (L' := [(0, .ref v0)]) (S' := [.int 105, .int 2, .ref a2, .ref a2, .ref v0]) rfl ?_
  refine zco_castore (zdk (cc := cX12_init) (q := (600, .castore, 1)) tkX12_init_q6 55 rfl) ?_
  refine zco_p tkX12_init_q6 56 3 (pc' := 605) (L' := [(0, .ref v0)]) (S' := [.int 116, .int 3, .ref a2, .ref a2, .ref v0]) rfl ?_
  refine zco_castore (zdk (cc := cX12_init) (q := (605, .castore, 1)) tkX12_init_q6 59 rfl) ?_
  refine zco_p tkX12_init_q6 60 3 (pc' := 610) (L' := [(0, .ref v0)]) (S' := [.int 101, .int 4, .ref a2, .ref a2, .ref v0]) rfl ?_
  refine zco_castore (zdk (cc := cX12_init) (q := (610, .castore, 1)) tkX12_init_q6 63 rfl) ?_
  refine zco_p tkX12_init_q7 0 3 (pc' := 615) (L' := [(0, .ref v0)]) (S' := [.int 100, .int 5, .ref a2, .ref a2, .ref v0]) rfl ?_
  refine zco_castore (zdk (cc := cX12_init) (q := (615, .castore, 1)) tkX12_init_q7 3 rfl) ?_
  refine zco_prF fl_12_75 (Or.inr ⟨_, rfl⟩) rfl rfl (by decide +kernel) (zdk (cc := cX12_init) (q := (616, .putfield 75, 3)) tkX12_init_q7 4 rfl) ?_
  exact zco_sub [0] rfl (coX12_init_J619 l e he v0)
set_option maxHeartbeats 2000000 in
set_option maxRecDepth 20000 in
theorem coX12_init_J452 (l : Launch) (e : Nat) (he : 0 ≤ e) (v0 : Nat) : zCo l (e + 1) 65 17275 iX12_init 452 [(0, .ref v0)] [] (X12_init_J452 v0) := by
  unfold X12_init_J452
  refine zco_p tkX12_init_q5 9 2 (pc' := 454) (L' := [(0, .ref v0)]) (S' := [.int 5, .ref v0]) rfl ?_
  refine zco_newa_char (N := 5) q_1737 (by decide) (by decide +kernel) (by decide) (zdk (cc := cX12_init) (q := (454, .newarray .char, 2)) tkX12_init_q5 11 rfl) (fun a1 => ?_)
  refine zco_p tkX12_init_q5 12 3 (pc' := 460) (L' := [(0, .ref v0)]) (S' := [.int 107, .int 0, .ref a1, .ref a1, .ref v0]) rfl ?_
  refine zco_castore (zdk (cc := cX12_init) (q := (460, .castore, 1)) tkX12_init_q5 15 rfl) ?_
  refine zco_p tkX12_init_q5 16 3 (pc' := 465) (L' := [(0, .ref v0)]) (S' := [.int 110, .int 1, .ref a1, .ref a1, .ref v0]) rfl ?_
  refine zco_castore (zdk (cc := cX12_init) (q := (465, .castore, 1)) tkX12_init_q5 19 rfl) ?_
  refine zco_p tkX12_init_q5 20 3 (pc' := 470) (L' := [(0, .ref v0)]) (S' := [.int 111, .int 2, .ref a1, .ref a1, .ref v0]) rfl ?_
  refine zco_castore (zdk (cc := cX12_init) (q := (470, .castore, 1)) tkX12_init_q5 23 rfl) ?_
  refine zco_p tkX12_init_q5 24 3 (pc' := 475) (L' := [(0, .ref v0)]) (S' := [.int 119, .int 3, .ref a1, .ref a1, .ref v0]) rfl ?_
  refine zco_castore (zdk (cc := cX12_init) (q := (475, .castore, 1)) tkX12_init_q5 27 rfl) ?_
  refine zco_p tkX12_init_q5 28 3 (pc' := 480) (L' := [(0, .ref v0)]) (S' := [.int 110, .int 4, .ref a1, .ref a1, .ref v0]) rfl ?_
  refine zco_castore (zdk (cc := cX12_init) (q := (480, .castore, 1)) tkX12_init_q5 31 rfl) ?_
  refine zco_prF fl_12_63 (Or.inr ⟨_, rfl⟩) rfl rfl (by decide +kernel) (zdk (cc := cX12_init) (q := (481, .putfield 63, 3)) tkX12_init_q5 32 rfl) ?_
  refine zco_p tkX12_init_q5 33 2 (pc' := 486) (L' := [(0, .ref v0)]) (S' := [.int 4, .ref v0]) rfl ?_
  refine zco_newa_char (N := 4) q_1737 (by decide) (by decide +kernel) (by decide) (zdk (cc := cX12_init) (q := (486, .newarray .char, 2)) tkX12_init_q5 35 rfl) (fun a2 => ?_)
  refine zco_p tkX12_init_q5 36 3 (pc' := 492) (L' := [(0, .ref v0)]) (S' := [.int 102, .int 0, .ref a2, .ref a2, .ref v0]) rfl ?_
  refine zco_castore (zdk (cc := cX12_init) (q := (492, .castore, 1)) tkX12_init_q5 39 rfl) ?_
  refine zco_p tkX12_init_q5 40 3 (pc' := 497) (L' := [(0, .ref v0)]) (S' := [.int 101, .int 1, .ref a2, .ref a2, .ref v0]) rfl ?_
  refine zco_castore (zdk (cc := cX12_init) (q := (497, .castore, 1)) tkX12_init_q5 43 rfl) ?_
  refine zco_p tkX12_init_q5 44 3 (pc' := 502) (L' := [(0, .ref v0)]) (S' := [.int 101, .int 2, .ref a2, .ref a2, .ref v0]) rfl ?_
  refine zco_castore (zdk (cc := cX12_init) (q := (502, .castore, 1)) tkX12_init_q5 47 rfl) ?_
  refine zco_p tkX12_init_q5 48 3 (pc' := 507) (L' := [(0, .ref v0)]) (S' := [.int 108, .int 3, .ref a2, .ref a2, .ref v0]) rfl ?_
  refine zco_castore (zdk (cc := cX12_init) (q := (507, .castore, 1)) tkX12_init_q5 51 rfl) ?_
  refine zco_prF fl_12_66 (Or.inr ⟨_, rfl⟩) rfl rfl (by decide +kernel) (zdk (cc := cX12_init) (q := (508, .putfield 66, 3)) tkX12_init_q5 52 rfl) ?_
  refine zco_p tkX12_init_q5 53 2 (pc' := 513) (L' := [(0, .ref v0)]) (S' := [.int 5, .ref v0]) rfl ?_
  refine zco_newa_char (N := 5) q_1737 (by decide) (by decide +kernel) (by decide) (zdk (cc := cX12_init) (q := (513, .newarray .char, 2)) tkX12_init_q5 55 rfl) (fun a3 => ?_)
  refine zco_p tkX12_init_q5 56 3 (pc' := 519) (L' := [(0, .ref v0)]) (S' := [.int 114, .int 0, .ref a3, .ref a3, .ref v0]) rfl ?_
  refine zco_castore (zdk (cc := cX12_init) (q := (519, .castore, 1)) tkX12_init_q5 59 rfl) ?_
  refine zco_p tkX12_init_q5 60 3 (pc' := 524) (L' := [(0, .ref v0)]) (S' := [.int 111, .int 1, .ref a3, .ref a3, .ref v0]) rfl ?_
  refine zco_castore (zdk (cc := cX12_init) (q := (524, .castore, 1)) tkX12_init_q5 63 rfl) ?_
  refine zco_p tkX12_init_q6 0 3 (pc' := 529) (L' := [(0, .ref v0)]) (S' := [.int 117, .int 2, .ref a3, .ref a3, .ref v0]) rfl ?_
  refine zco_castore (zdk (cc := cX12_init) (q := (529, .castore, 1)) tkX12_init_q6 3 rfl) ?_
  refine zco_p tkX12_init_q6 4 3 (pc' := 534) (L' := [(0, .ref v0)]) (S' := [.int 110, .int 3, .ref a3, .ref a3, .ref v0]) rfl ?_
  refine zco_castore (zdk (cc := cX12_init) (q := (534, .castore, 1)) tkX12_init_q6 7 rfl) ?_
  refine zco_p tkX12_init_q6 8 3 (pc' := 539) (L' := [(0, .ref v0)]) (S' := [.int 100, .int 4, .ref a3, .ref a3, .ref v0]) rfl ?_
  refine zco_castore (zdk (cc := cX12_init) (q := (539, .castore, 1)) tkX12_init_q6 11 rfl) ?_
  refine zco_prF fl_12_69 (Or.inr ⟨_, rfl⟩) rfl rfl (by decide +kernel) (zdk (cc := cX12_init) (q := (540, .putfield 69, 3)) tkX12_init_q6 12 rfl) ?_
  exact zco_sub [0] rfl (coX12_init_J543 l e he v0)
set_option maxHeartbeats 2000000 in
set_option maxRecDepth 20000 in
theorem coX12_init_J387 (l : Launch) (e : Nat) (he : 0 ≤ e) (v0 : Nat) : zCo l (e + 1) 67 17285 iX12_init 387 [(0, .ref v0)] [] (X12_init_J387 v0) := by
  unfold X12_init_J387
  refine zco_p tkX12_init_q4 25 2 (pc' := 389) (L' := [(0, .ref v0)]) (S' := [.int 4, .ref v0]) rfl ?_
  refine zco_newa_char (N := 4) q_1737 (by decide) (by decide +kernel) (by decide) (zdk (cc := cX12_init) (q := (389, .newarray .char, 2)) tkX12_init_q4 27 rfl) (fun a1 => ?_)
  refine zco_p tkX12_init_q4 28 3 (pc' := 395) (L' := [(0, .ref v0)]) (S' := [.int 115, .int 0, .ref a1, .ref a1, .ref v0]) rfl ?_
  refine zco_castore (zdk (cc := cX12_init) (q := (395, .castore, 1)) tkX12_init_q4 31 rfl) ?_
  refine zco_p tkX12_init_q4 32 3 (pc' := 400) (L' := [(0, .ref v0)]) (S' := [.int 108, .int 1, .ref a1, .ref a1, .ref v0]) rfl ?_
  refine zco_castore (zdk (cc := cX12_init) (q := (400, .castore, 1)) tkX12_init_q4 35 rfl) ?_
  refine zco_p tkX12_init_q4 36 3 (pc' := 405) (L' := [(0, .ref v0)]) (S' := [.int 105, .int 2, .ref a1, .ref a1, .ref v0]) rfl ?_
  refine zco_castore (zdk (cc := cX12_init) (q := (405, .castore, 1)) tkX12_init_q4 39 rfl) ?_
  refine zco_p tkX12_init_q4 40 3 (pc' := 410) (L' := [(0, .ref v0)]) (S' := [.int 112, .int 3, .ref a1, .ref a1, .ref v0]) rfl ?_
  refine zco_castore (zdk (cc := cX12_init) (q := (410, .castore, 1)) tkX12_init_q4 43 rfl) ?_
  refine zco_prF fl_12_57 (Or.inr ⟨_, rfl⟩) rfl rfl (by decide +kernel) (zdk (cc := cX12_init) (q := (411, .putfield 57, 3)) tkX12_init_q4 44 rfl) ?_
  refine zco_p tkX12_init_q4 45 2 (pc' := 417) (L' := [(0, .ref v0)]) (S' := [.int 6, .ref v0]) rfl ?_
  refine zco_newa_char (N := 6) q_1737 (by decide) (by decide +kernel) (by decide) (zdk (cc := cX12_init) (q := (417, .newarray .char, 2)) tkX12_init_q4 47 rfl) (fun a2 => ?_)
  refine zco_p tkX12_init_q4 48 3 (pc' := 423) (L' := [(0, .ref v0)]) (S' := [.int 108, .int 0, .ref a2, .ref a2, .ref v0]) rfl ?_
  refine zco_castore (zdk (cc := cX12_init) (q := (423, .castore, 1)) tkX12_init_q4 51 rfl) ?_
  refine zco_p tkX12_init_q4 52 3 (pc' := 428) (L' := [(0, .ref v0)]) (S' := [.int 105, .int 1, .ref a2, .ref a2, .ref v0]) rfl ?_
  refine zco_castore (zdk (cc := cX12_init) (q := (428, .castore, 1)) tkX12_init_q4 55 rfl) ?_
  refine zco_p tkX12_init_q4 56 3 (pc' := 433) (L' := [(0, .ref v0)]) (S' := [.int 107, .int 2, .ref a2, .ref a2, .ref v0]) rfl ?_
  refine zco_castore (zdk (cc := cX12_init) (q := (433, .castore, 1)) tkX12_init_q4 59 rfl) ?_
  refine zco_p tkX12_init_q4 60 3 (pc' := 438) (L' := [(0, .ref v0)]) (S' := [.int 105, .int 3, .ref a2, .ref a2, .ref v0]) rfl ?_
  refine zco_castore (zdk (cc := cX12_init) (q := (438, .castore, 1)) tkX12_init_q4 63 rfl) ?_
  refine zco_p tkX12_init_q5 0 3 (pc' := 443) (L' := [(0, .ref v0)]) (S' := [.int 110, .int 4, .ref a2, .ref a2, .ref v0]) rfl ?_
  refine zco_castore (zdk (cc := cX12_init) (q := (443, .castore, 1)) tkX12_init_q5 3 rfl) ?_
  refine zco_p tkX12_init_q5 4 3 (pc' := 448) (L' := [(0, .ref v0)]) (S' := [.int 103, .int 5, .ref a2, .ref a2, .ref v0]) rfl ?_
  refine zco_castore (zdk (cc := cX12_init) (q := (448, .castore, 1)) tkX12_init_q5 7 rfl) ?_
  refine zco_prF fl_12_60 (Or.inr ⟨_, rfl⟩) rfl rfl (by decide +kernel) (zdk (cc := cX12_init) (q := (449, .putfield 60, 3)) tkX12_init_q5 8 rfl) ?_
  exact zco_sub [0] rfl (coX12_init_J452 l e he v0)
set_option maxHeartbeats 2000000 in
set_option maxRecDepth 20000 in
theorem coX12_init_J322 (l : Launch) (e : Nat) (he : 0 ≤ e) (v0 : Nat) : zCo l (e + 1) 69 17295 iX12_init 322 [(0, .ref v0)] [] (X12_init_J322 v0) := by
  unfold X12_init_J322
  refine zco_p tkX12_init_q3 41 2 (pc' := 324) (L' := [(0, .ref v0)]) (S' := [.int 4, .ref v0]) rfl ?_
  refine zco_newa_char (N := 4) q_1737 (by decide) (by decide +kernel) (by decide) (zdk (cc := cX12_init) (q := (324, .newarray .char, 2)) tkX12_init_q3 43 rfl) (fun a1 => ?_)
  refine zco_p tkX12_init_q3 44 3 (pc' := 330) (L' := [(0, .ref v0)]) (S' := [.int 108, .int 0, .ref a1, .ref a1, .ref v0]) rfl ?_
  refine zco_castore (zdk (cc := cX12_init) (q := (330, .castore, 1)) tkX12_init_q3 47 rfl) ?_
  refine zco_p tkX12_init_q3 48 3 (pc' := 335) (L' := [(0, .ref v0)]) (S' := [.int 101, .int 1, .ref a1, .ref a1, .ref v0]) rfl ?_
  refine zco_castore (zdk (cc := cX12_init) (q := (335, .castore, 1)) tkX12_init_q3 51 rfl) ?_
  refine zco_p tkX12_init_q3 52 3 (pc' := 340) (L' := [(0, .ref v0)]) (S' := [.int 116, .int 2, .ref a1, .ref a1, .ref v0]) rfl ?_
  refine zco_castore (zdk (cc := cX12_init) (q := (340, .castore, 1)) tkX12_init_q3 55 rfl) ?_
  refine zco_p tkX12_init_q3 56 3 (pc' := 345) (L' := [(0, .ref v0)]) (S' := [.int 115, .int 3, .ref a1, .ref a1, .ref v0]) rfl ?_
  refine zco_castore (zdk (cc := cX12_init) (q := (345, .castore, 1)) tkX12_init_q3 59 rfl) ?_
  refine zco_prF fl_12_51 (Or.inr ⟨_, rfl⟩) rfl rfl (by decide +kernel) (zdk (cc := cX12_init) (q := (346, .putfield 51, 3)) tkX12_init_q3 60 rfl) ?_
  refine zco_p tkX12_init_q3 61 2 (pc' := 352) (L' := [(0, .ref v0)]) (S' := [.int 6, .ref v0]) rfl ?_
  refine zco_newa_char (N := 6) q_1737 (by decide) (by decide +kernel) (by decide) (zdk (cc := cX12_init) (q := (352, .newarray .char, 2)) tkX12_init_q3 63 rfl) (fun a2 => ?_)
  refine zco_p tkX12_init_q4 0 3 (pc' := 358) (L' := [(0, .ref v0)]) (S' := [.int 108, .int 0, .ref a2, .ref a2, .ref v0]) rfl ?_
  refine zco_castore (zdk (cc := cX12_init) (q := (358, .castore, 1)) tkX12_init_q4 3 rfl) ?_
  refine zco_p tkX12_init_q4 4 3 (pc' := 363) (L' := [(0, .ref v0)]) (S' := [.int 101, .int 1, .ref a2, .ref a2, .ref v0]) rfl ?_
  refine zco_castore (zdk (cc := cX12_init) (q := (363, .castore, 1)) tkX12_init_q4 7 rfl) ?_
  refine zco_p tkX12_init_q4 8 3 (pc' := 368) (L' := [(0, .ref v0)]) (S' := [.int 97, .int 2, .ref a2, .ref a2, .ref v0]) rfl ?_
  refine zco_castore (zdk (cc := cX12_init) (q := (368, .castore, 1)) tkX12_init_q4 11 rfl) ?_
  refine zco_p tkX12_init_q4 12 3 (pc' := 373) (L' := [(0, .ref v0)]) (S' := [.int 114, .int 3, .ref a2, .ref a2, .ref v0]) rfl ?_
  refine zco_castore (zdk (cc := cX12_init) (q := (373, .castore, 1)) tkX12_init_q4 15 rfl) ?_
  refine zco_p tkX12_init_q4 16 3 (pc' := 378) (L' := [(0, .ref v0)]) (S' := [.int 110, .int 4, .ref a2, .ref a2, .ref v0]) rfl ?_
  refine zco_castore (zdk (cc := cX12_init) (q := (378, .castore, 1)) tkX12_init_q4 19 rfl) ?_
  refine zco_p tkX12_init_q4 20 3 (pc' := 383) (L' := [(0, .ref v0)]) (S' := [.int 115, .int 5, .ref a2, .ref a2, .ref v0]) rfl ?_
  refine zco_castore (zdk (cc := cX12_init) (q := (383, .castore, 1)) tkX12_init_q4 23 rfl) ?_
  refine zco_prF fl_12_54 (Or.inr ⟨_, rfl⟩) rfl rfl (by decide +kernel) (zdk (cc := cX12_init) (q := (384, .putfield 54, 3)) tkX12_init_q4 24 rfl) ?_
  exact zco_sub [0] rfl (coX12_init_J387 l e he v0)
set_option maxHeartbeats 2000000 in
set_option maxRecDepth 20000 in
theorem coX12_init_J252 (l : Launch) (e : Nat) (he : 0 ≤ e) (v0 : Nat) : zCo l (e + 1) 71 17306 iX12_init 252 [(0, .ref v0)] [] (X12_init_J252 v0) := by
  unfold X12_init_J252
  refine zco_p tkX12_init_q2 53 2 (pc' := 255) (L' := [(0, .ref v0)]) (S' := [.int 6, .ref v0]) rfl ?_
  refine zco_newa_char (N := 6) q_1737 (by decide) (by decide +kernel) (by decide) (zdk (cc := cX12_init) (q := (255, .newarray .char, 2)) tkX12_init_q2 55 rfl) (fun a1 => ?_)
  refine zco_p tkX12_init_q2 56 3 (pc' := 261) (L' := [(0, .ref v0)]) (S' := [.int 114, .int 0, .ref a1, .ref a1, .ref v0]) rfl ?_
  refine zco_castore (zdk (cc := cX12_init) (q := (261, .castore, 1)) tkX12_init_q2 59 rfl) ?_
  refine zco_p tkX12_init_q2 60 3 (pc' := 266) (L' := [(0, .ref v0)]) (S' := [.int 111, .int 1, .ref a1, .ref a1, .ref v0]) rfl ?_
  refine zco_castore (zdk (cc := cX12_init) (q := (266, .castore, 1)) tkX12_init_q2 63 rfl) ?_
  refine zco_p tkX12_init_q3 0 3 (pc' := 271) (L' := [(0, .ref v0)]) (S' := [.int 117, .int 2, .ref a1, .ref a1, .ref v0]) rfl ?_
  refine zco_castore (zdk (cc := cX12_init) (q := (271, .castore, 1)) tkX12_init_q3 3 rfl) ?_
  refine zco_p tkX12_init_q3 4 3 (pc' := 276) (L' := [(0, .ref v0)]) (S' := [.int 110, .int 3, .ref a1, .ref a1, .ref v0]) rfl ?_
  refine zco_castore (zdk (cc := cX12_init) (q := (276, .castore, 1)) tkX12_init_q3 7 rfl) ?_
  refine zco_p tkX12_init_q3 8 3 (pc' := 281) (L' := [(0, .ref v0)]) (S' := [.int 100, .int 4, .ref a1, .ref a1, .ref v0]) rfl ?_
  refine zco_castore (zdk (cc := cX12_init) (q := (281, .castore, 1)) tkX12_init_q3 11 rfl) ?_
  refine zco_p tkX12_init_q3 12 3 (pc' := 286) (L' := [(0, .ref v0)]) (S' := [.int 115, .int 5, .ref a1, .ref a1, .ref v0]) rfl ?_
  refine zco_castore (zdk (cc := cX12_init) (q := (286, .castore, 1)) tkX12_init_q3 15 rfl) ?_
  refine zco_prF fl_12_45 (Or.inr ⟨_, rfl⟩) rfl rfl (by decide +kernel) (zdk (cc := cX12_init) (q := (287, .putfield 45, 3)) tkX12_init_q3 16 rfl) ?_
  refine zco_p tkX12_init_q3 17 2 (pc' := 292) (L' := [(0, .ref v0)]) (S' := [.int 5, .ref v0]) rfl ?_
  refine zco_newa_char (N := 5) q_1737 (by decide) (by decide +kernel) (by decide) (zdk (cc := cX12_init) (q := (292, .newarray .char, 2)) tkX12_init_q3 19 rfl) (fun a2 => ?_)
  refine zco_p tkX12_init_q3 20 3 (pc' := 298) (L' := [(0, .ref v0)]) (S' := [.int 102, .int 0, .ref a2, .ref a2, .ref v0]) rfl ?_
  refine zco_castore (zdk (cc := cX12_init) (q := (298, .castore, 1)) tkX12_init_q3 23 rfl) ?_
  refine zco_p tkX12_init_q3 24 3 (pc' := 303) (L' := [(0, .ref v0)]) (S' := [.int 101, .int 1, .ref a2, .ref a2, .ref v0]) rfl ?_
  refine zco_castore (zdk (cc := cX12_init) (q := (303, .castore, 1)) tkX12_init_q3 27 rfl) ?_
  refine zco_p tkX12_init_q3 28 3 (pc' := 308) (L' := [(0, .ref v0)]) (S' := [.int 101, .int 2, .ref a2, .ref a2, .ref v0]) rfl ?_
  refine zco_castore (zdk (cc := cX12_init) (q := (308, .castore, 1)) tkX12_init_q3 31 rfl) ?_
  refine zco_p tkX12_init_q3 32 3 (pc' := 313) (L' := [(0, .ref v0)]) (S' := [.int 108, .int 3, .ref a2, .ref a2, .ref v0]) rfl ?_
  refine zco_castore (zdk (cc := cX12_init) (q := (313, .castore, 1)) tkX12_init_q3 35 rfl) ?_
  refine zco_p tkX12_init_q3 36 3 (pc' := 318) (L' := [(0, .ref v0)]) (S' := [.int 115, .int 4, .ref a2, .ref a2, .ref v0]) rfl ?_
  refine zco_castore (zdk (cc := cX12_init) (q := (318, .castore, 1)) tkX12_init_q3 39 rfl) ?_
  refine zco_prF fl_12_48 (Or.inr ⟨_, rfl⟩) rfl rfl (by decide +kernel) (zdk (cc := cX12_init) (q := (319, .putfield 48, 3)) tkX12_init_q3 40 rfl) ?_
  exact zco_sub [0] rfl (coX12_init_J322 l e he v0)
set_option maxHeartbeats 2000000 in
set_option maxRecDepth 20000 in
theorem coX12_init_J166 (l : Launch) (e : Nat) (he : 0 ≤ e) (v0 : Nat) : zCo l (e + 1) 74 17319 iX12_init 166 [(0, .ref v0)] [] (X12_init_J166 v0) := by
  unfold X12_init_J166
  refine zco_p tkX12_init_q1 53 2 (pc' := 168) (L' := [(0, .ref v0)]) (S' := [.int 3, .ref v0]) rfl ?_
  refine zco_newa_char (N := 3) q_1737 (by decide) (by decide +kernel) (by decide) (zdk (cc := cX12_init) (q := (168, .newarray .char, 2)) tkX12_init_q1 55 rfl) (fun a1 => ?_)
  refine zco_p tkX12_init_q1 56 3 (pc' := 174) (L' := [(0, .ref v0)]) (S' := [.int 107, .int 0, .ref a1, .ref a1, .ref v0]) rfl ?_
  refine zco_castore (zdk (cc := cX12_init) (q := (174, .castore, 1)) tkX12_init_q1 59 rfl) ?_
  refine zco_p tkX12_init_q1 60 3 (pc' := 179) (L' := [(0, .ref v0)]) (S' := [.int 105, .int 1, .ref a1, .ref a1, .ref v0]) rfl ?_
  refine zco_castore (zdk (cc := cX12_init) (q := (179, .castore, 1)) tkX12_init_q1 63 rfl) ?_
  refine zco_p tkX12_init_q2 0 3 (pc' := 184) (L' := [(0, .ref v0)]) (S' := [.int 110, .int 2, .ref a1, .ref a1, .ref v0]) rfl ?_
  refine zco_castore (zdk (cc := cX12_init) (q := (184, .castore, 1)) tkX12_init_q2 3 rfl) ?_
  refine zco_prF fl_12_36 (Or.inr ⟨_, rfl⟩) rfl rfl (by decide +kernel) (zdk (cc := cX12_init) (q := (185, .putfield 36, 3)) tkX12_init_q2 4 rfl) ?_
  refine zco_p tkX12_init_q2 5 2 (pc' := 190) (L' := [(0, .ref v0)]) (S' := [.int 5, .ref v0]) rfl ?_
  refine zco_newa_char (N := 5) q_1737 (by decide) (by decide +kernel) (by decide) (zdk (cc := cX12_init) (q := (190, .newarray .char, 2)) tkX12_init_q2 7 rfl) (fun a2 => ?_)
  refine zco_p tkX12_init_q2 8 3 (pc' := 196) (L' := [(0, .ref v0)]) (S' := [.int 108, .int 0, .ref a2, .ref a2, .ref v0]) rfl ?_
  refine zco_castore (zdk (cc := cX12_init) (q := (196, .castore, 1)) tkX12_init_q2 11 rfl) ?_
  refine zco_p tkX12_init_q2 12 3 (pc' := 201) (L' := [(0, .ref v0)]) (S' := [.int 105, .int 1, .ref a2, .ref a2, .ref v0]) rfl ?_
  refine zco_castore (zdk (cc := cX12_init) (q := (201, .castore, 1)) tkX12_init_q2 15 rfl) ?_
  refine zco_p tkX12_init_q2 16 3 (pc' := 206) (L' := [(0, .ref v0)]) (S' := [.int 107, .int 2, .ref a2, .ref a2, .ref v0]) rfl ?_
  refine zco_castore (zdk (cc := cX12_init) (q := (206, .castore, 1)) tkX12_init_q2 19 rfl) ?_
  refine zco_p tkX12_init_q2 20 3 (pc' := 211) (L' := [(0, .ref v0)]) (S' := [.int 101, .int 3, .ref a2, .ref a2, .ref v0]) rfl ?_
  refine zco_castore (zdk (cc := cX12_init) (q := (211, .castore, 1)) tkX12_init_q2 23 rfl) ?_
  refine zco_p tkX12_init_q2 24 3 (pc' := 216) (L' := [(0, .ref v0)]) (S' := [.int 115, .int 4, .ref a2, .ref a2, .ref v0]) rfl ?_
  refine zco_castore (zdk (cc := cX12_init) (q := (216, .castore, 1)) tkX12_init_q2 27 rfl) ?_
  refine zco_prF fl_12_39 (Or.inr ⟨_, rfl⟩) rfl rfl (by decide +kernel) (zdk (cc := cX12_init) (q := (217, .putfield 39, 3)) tkX12_init_q2 28 rfl) ?_
  refine zco_p tkX12_init_q2 29 2 (pc' := 222) (L' := [(0, .ref v0)]) (S' := [.int 5, .ref v0]) rfl ?_
  refine zco_newa_char (N := 5) q_1737 (by decide) (by decide +kernel) (by decide) (zdk (cc := cX12_init) (q := (222, .newarray .char, 2)) tkX12_init_q2 31 rfl) (fun a3 => ?_)
  refine zco_p tkX12_init_q2 32 3 (pc' := 228) (L' := [(0, .ref v0)]) (S' := [.int 107, .int 0, .ref a3, .ref a3, .ref v0]) rfl ?_
  refine zco_castore (zdk (cc := cX12_init) (q := (228, .castore, 1)) tkX12_init_q2 35 rfl) ?_
  refine zco_p tkX12_init_q2 36 3 (pc' := 233) (L' := [(0, .ref v0)]) (S' := [.int 110, .int 1, .ref a3, .ref a3, .ref v0]) rfl ?_
  refine zco_castore (zdk (cc := cX12_init) (q := (233, .castore, 1)) tkX12_init_q2 39 rfl) ?_
  refine zco_p tkX12_init_q2 40 3 (pc' := 238) (L' := [(0, .ref v0)]) (S' := [.int 111, .int 2, .ref a3, .ref a3, .ref v0]) rfl ?_
  refine zco_castore (zdk (cc := cX12_init) (q := (238, .castore, 1)) tkX12_init_q2 43 rfl) ?_
  refine zco_p tkX12_init_q2 44 3 (pc' := 243) (L' := [(0, .ref v0)]) (S' := [.int 119, .int 3, .ref a3, .ref a3, .ref v0]) rfl ?_
  refine zco_castore (zdk (cc := cX12_init) (q := (243, .castore, 1)) tkX12_init_q2 47 rfl) ?_
  refine zco_p tkX12_init_q2 48 3 (pc' := 248) (L' := [(0, .ref v0)]) (S' := [.int 115, .int 4, .ref a3, .ref a3, .ref v0]) rfl ?_
  refine zco_castore (zdk (cc := cX12_init) (q := (248, .castore, 1)) tkX12_init_q2 51 rfl) ?_
  refine zco_prF fl_12_42 (Or.inr ⟨_, rfl⟩) rfl rfl (by decide +kernel) (zdk (cc := cX12_init) (q := (249, .putfield 42, 3)) tkX12_init_q2 52 rfl) ?_
  exact zco_sub [0] rfl (coX12_init_J252 l e he v0)
set_option maxHeartbeats 2000000 in
set_option maxRecDepth 20000 in
theorem coX12_init_J85 (l : Launch) (e : Nat) (he : 0 ≤ e) (v0 : Nat) : zCo l (e + 1) 77 17331 iX12_init 85 [(0, .ref v0)] [] (X12_init_J85 v0) := by
  unfold X12_init_J85
  refine zco_p tkX12_init_q0 57 2 (pc' := 87) (L' := [(0, .ref v0)]) (S' := [.int 4, .ref v0]) rfl ?_
  refine zco_newa_char (N := 4) q_1737 (by decide) (by decide +kernel) (by decide) (zdk (cc := cX12_init) (q := (87, .newarray .char, 2)) tkX12_init_q0 59 rfl) (fun a1 => ?_)
  refine zco_p tkX12_init_q0 60 3 (pc' := 93) (L' := [(0, .ref v0)]) (S' := [.int 119, .int 0, .ref a1, .ref a1, .ref v0]) rfl ?_
  refine zco_castore (zdk (cc := cX12_init) (q := (93, .castore, 1)) tkX12_init_q0 63 rfl) ?_
  refine zco_p tkX12_init_q1 0 3 (pc' := 98) (L' := [(0, .ref v0)]) (S' := [.int 97, .int 1, .ref a1, .ref a1, .ref v0]) rfl ?_
  refine zco_castore (zdk (cc := cX12_init) (q := (98, .castore, 1)) tkX12_init_q1 3 rfl) ?_
  refine zco_p tkX12_init_q1 4 3 (pc' := 103) (L' := [(0, .ref v0)]) (S' := [.int 114, .int 2, .ref a1, .ref a1, .ref v0]) rfl ?_
  refine zco_castore (zdk (cc := cX12_init) (q := (103, .castore, 1)) tkX12_init_q1 7 rfl) ?_
  refine zco_p tkX12_init_q1 8 3 (pc' := 108) (L' := [(0, .ref v0)]) (S' := [.int 109, .int 3, .ref a1, .ref a1, .ref v0]) rfl ?_
  refine zco_castore (zdk (cc := cX12_init) (q := (108, .castore, 1)) tkX12_init_q1 11 rfl) ?_
  refine zco_prF fl_12_27 (Or.inr ⟨_, rfl⟩) rfl rfl (by decide +kernel) (zdk (cc := cX12_init) (q := (109, .putfield 27, 3)) tkX12_init_q1 12 rfl) ?_
  refine zco_p tkX12_init_q1 13 2 (pc' := 114) (L' := [(0, .ref v0)]) (S' := [.int 4, .ref v0]) rfl ?_
  refine zco_newa_char (N := 4) q_1737 (by decide) (by decide +kernel) (by decide) (zdk (cc := cX12_init) (q := (114, .newarray .char, 2)) tkX12_init_q1 15 rfl) (fun a2 => ?_)
  refine zco_p tkX12_init_q1 16 3 (pc' := 120) (L' := [(0, .ref v0)]) (S' := [.int 119, .int 0, .ref a2, .ref a2, .ref v0]) rfl ?_
  refine zco_castore (zdk (cc := cX12_init) (q := (120, .castore, 1)) tkX12_init_q1 19 rfl) ?_
  refine zco_p tkX12_init_q1 20 3 (pc' := 125) (L' := [(0, .ref v0)]) (S' := [.int 111, .int 1, .ref a2, .ref a2, .ref v0]) rfl ?_
  refine zco_castore (zdk (cc := cX12_init) (q := (125, .castore, 1)) tkX12_init_q1 23 rfl) ?_
  refine zco_p tkX12_init_q1 24 3 (pc' := 130) (L' := [(0, .ref v0)]) (S' := [.int 114, .int 2, .ref a2, .ref a2, .ref v0]) rfl ?_
  refine zco_castore (zdk (cc := cX12_init) (q := (130, .castore, 1)) tkX12_init_q1 27 rfl) ?_
  refine zco_p tkX12_init_q1 28 3 (pc' := 135) (L' := [(0, .ref v0)]) (S' := [.int 107, .int 3, .ref a2, .ref a2, .ref v0]) rfl ?_
  refine zco_castore (zdk (cc := cX12_init) (q := (135, .castore, 1)) tkX12_init_q1 31 rfl) ?_
  refine zco_prF fl_12_30 (Or.inr ⟨_, rfl⟩) rfl rfl (by decide +kernel) (zdk (cc := cX12_init) (q := (136, .putfield 30, 3)) tkX12_init_q1 32 rfl) ?_
  refine zco_p tkX12_init_q1 33 2 (pc' := 141) (L' := [(0, .ref v0)]) (S' := [.int 4, .ref v0]) rfl ?_
  refine zco_newa_char (N := 4) q_1737 (by decide) (by decide +kernel) (by decide) (zdk (cc := cX12_init) (q := (141, .newarray .char, 2)) tkX12_init_q1 35 rfl) (fun a3 => ?_)
  refine zco_p tkX12_init_q1 36 3 (pc' := 147) (L' := [(0, .ref v0)]) (S' := [.int 115, .int 0, .ref a3, .ref a3, .ref v0]) rfl ?_
  refine zco_castore (zdk (cc := cX12_init) (q := (147, .castore, 1)) tkX12_init_q1 39 rfl) ?_
  refine zco_p tkX12_init_q1 40 3 (pc' := 152) (L' := [(0, .ref v0)]) (S' := [.int 105, .int 1, .ref a3, .ref a3, .ref v0]) rfl ?_
  refine zco_castore (zdk (cc := cX12_init) (q := (152, .castore, 1)) tkX12_init_q1 43 rfl) ?_
  refine zco_p tkX12_init_q1 44 3 (pc' := 157) (L' := [(0, .ref v0)]) (S' := [.int 122, .int 2, .ref a3, .ref a3, .ref v0]) rfl ?_
  refine zco_castore (zdk (cc := cX12_init) (q := (157, .castore, 1)) tkX12_init_q1 47 rfl) ?_
  refine zco_p tkX12_init_q1 48 3 (pc' := 162) (L' := [(0, .ref v0)]) (S' := [.int 101, .int 3, .ref a3, .ref a3, .ref v0]) rfl ?_
  refine zco_castore (zdk (cc := cX12_init) (q := (162, .castore, 1)) tkX12_init_q1 51 rfl) ?_
  refine zco_prF fl_12_33 (Or.inr ⟨_, rfl⟩) rfl rfl (by decide +kernel) (zdk (cc := cX12_init) (q := (163, .putfield 33, 3)) tkX12_init_q1 52 rfl) ?_
  exact zco_sub [0] rfl (coX12_init_J166 l e he v0)
set_option maxHeartbeats 2000000 in
set_option maxRecDepth 20000 in
theorem coX12_init (l : Launch) (e : Nat) (he : 0 ≤ e) (v0 : Nat) : zCo l (e + 1) 81 18946 iX12_init 0 [(0, .ref v0)] [] (X12_init v0) := by
  unfold X12_init
  refine zco_p tkX12_init_q0 0 1 (pc' := 1) (L' := [(0, .ref v0)]) (S' := [.ref v0]) rfl ?_
  refine zco_obj (by omega) q_1387 q_176 q_objc (Nat.le_of_ble_eq_true rfl) (zdk (cc := cX12_init) (q := (1, .invokespecial 1, 3)) tkX12_init_q0 1 rfl) ?_
  refine zco_p tkX12_init_q0 2 2 (pc' := 8) (L' := [(0, .ref v0)]) (S' := [.int 1600, .ref v0]) rfl ?_
  refine zco_newa_int (N := 1600) q_202 (by decide) (by decide +kernel) (by decide) (zdk (cc := cX12_init) (q := (8, .newarray .int, 2)) tkX12_init_q0 4 rfl) (fun a1 => ?_)
  refine zco_prF fl_12_7 (Or.inr ⟨_, rfl⟩) rfl rfl (by decide +kernel) (zdk (cc := cX12_init) (q := (10, .putfield 7, 3)) tkX12_init_q0 5 rfl) ?_
  refine zco_p tkX12_init_q0 6 2 (pc' := 15) (L' := [(0, .ref v0)]) (S' := [.int ((-1)), .ref v0]) rfl ?_
  refine zco_pi fl_12_13 rfl rfl (zdk (cc := cX12_init) (q := (15, .putfield 13, 3)) tkX12_init_q0 8 rfl) ?_
  refine zco_p tkX12_init_q0 9 2 (pc' := 21) (L' := [(0, .ref v0)]) (S' := [.int 6, .ref v0]) rfl ?_
  refine zco_newa_int (N := 6) q_202 (by decide) (by decide +kernel) (by decide) (zdk (cc := cX12_init) (q := (21, .newarray .int, 2)) tkX12_init_q0 11 rfl) (fun a2 => ?_)
  refine zco_prF fl_12_17 (Or.inr ⟨_, rfl⟩) rfl rfl (by decide +kernel) (zdk (cc := cX12_init) (q := (23, .putfield 17, 3)) tkX12_init_q0 12 rfl) ?_
  refine zco_p tkX12_init_q0 13 2 (pc' := 28) (L' := [(0, .ref v0)]) (S' := [.int 4, .ref v0]) rfl ?_
  refine zco_newa_char (N := 4) q_1737 (by decide) (by decide +kernel) (by decide) (zdk (cc := cX12_init) (q := (28, .newarray .char, 2)) tkX12_init_q0 15 rfl) (fun a3 => ?_)
  refine zco_p tkX12_init_q0 16 3 (pc' := 34) (L' := [(0, .ref v0)]) (S' := [.int 108, .int 0, .ref a3, .ref a3, .ref v0]) rfl ?_
  refine zco_castore (zdk (cc := cX12_init) (q := (34, .castore, 1)) tkX12_init_q0 19 rfl) ?_
  refine zco_p tkX12_init_q0 20 3 (pc' := 39) (L' := [(0, .ref v0)]) (S' := [.int 101, .int 1, .ref a3, .ref a3, .ref v0]) rfl ?_
  refine zco_castore (zdk (cc := cX12_init) (q := (39, .castore, 1)) tkX12_init_q0 23 rfl) ?_
  refine zco_p tkX12_init_q0 24 3 (pc' := 44) (L' := [(0, .ref v0)]) (S' := [.int 102, .int 2, .ref a3, .ref a3, .ref v0]) rfl ?_
  refine zco_castore (zdk (cc := cX12_init) (q := (44, .castore, 1)) tkX12_init_q0 27 rfl) ?_
  refine zco_p tkX12_init_q0 28 3 (pc' := 49) (L' := [(0, .ref v0)]) (S' := [.int 116, .int 3, .ref a3, .ref a3, .ref v0]) rfl ?_
  refine zco_castore (zdk (cc := cX12_init) (q := (49, .castore, 1)) tkX12_init_q0 31 rfl) ?_
  refine zco_prF fl_12_20 (Or.inr ⟨_, rfl⟩) rfl rfl (by decide +kernel) (zdk (cc := cX12_init) (q := (50, .putfield 20, 3)) tkX12_init_q0 32 rfl) ?_
  refine zco_p tkX12_init_q0 33 2 (pc' := 55) (L' := [(0, .ref v0)]) (S' := [.int 5, .ref v0]) rfl ?_
  refine zco_newa_char (N := 5) q_1737 (by decide) (by decide +kernel) (by decide) (zdk (cc := cX12_init) (q := (55, .newarray .char, 2)) tkX12_init_q0 35 rfl) (fun a4 => ?_)
  refine zco_p tkX12_init_q0 36 3 (pc' := 61) (L' := [(0, .ref v0)]) (S' := [.int 114, .int 0, .ref a4, .ref a4, .ref v0]) rfl ?_
  refine zco_castore (zdk (cc := cX12_init) (q := (61, .castore, 1)) tkX12_init_q0 39 rfl) ?_
  refine zco_p tkX12_init_q0 40 3 (pc' := 66) (L' := [(0, .ref v0)]) (S' := [.int 105, .int 1, .ref a4, .ref a4, .ref v0]) rfl ?_
  refine zco_castore (zdk (cc := cX12_init) (q := (66, .castore, 1)) tkX12_init_q0 43 rfl) ?_
  refine zco_p tkX12_init_q0 44 3 (pc' := 71) (L' := [(0, .ref v0)]) (S' := [.int 103, .int 2, .ref a4, .ref a4, .ref v0]) rfl ?_
  refine zco_castore (zdk (cc := cX12_init) (q := (71, .castore, 1)) tkX12_init_q0 47 rfl) ?_
  refine zco_p tkX12_init_q0 48 3 (pc' := 76) (L' := [(0, .ref v0)]) (S' := [.int 104, .int 3, .ref a4, .ref a4, .ref v0]) rfl ?_
  refine zco_castore (zdk (cc := cX12_init) (q := (76, .castore, 1)) tkX12_init_q0 51 rfl) ?_
  refine zco_p tkX12_init_q0 52 3 (pc' := 81) (L' := [(0, .ref v0)]) (S' := [.int 116, .int 4, .ref a4, .ref a4, .ref v0]) rfl ?_
  refine zco_castore (zdk (cc := cX12_init) (q := (81, .castore, 1)) tkX12_init_q0 55 rfl) ?_
  refine zco_prF fl_12_24 (Or.inr ⟨_, rfl⟩) rfl rfl (by decide +kernel) (zdk (cc := cX12_init) (q := (82, .putfield 24, 3)) tkX12_init_q0 56 rfl) ?_
  exact zco_sub [0] rfl (coX12_init_J85 l e he v0)
theorem mtX12_init (l : Launch) (d : Nat) (hd : 1 ≤ d) (v0 : Nat) : zMet l d 81 18946 yX12_init cX12_init 1 (Option.none : Option FieldType) [.ref v0] (X12_init v0) := by
  obtain ⟨e, rfl⟩ : ∃ e, d = e + 1 := ⟨d - 1, by omega⟩
  exact zmet_of (own := RX12) (ini := true) (by decide +kernel) rfl (fun _ => rfl) (Nat.le_of_ble_eq_true rfl) (coX12_init l e (by omega) v0)
