/-! the cells of the class (0 .. 214) and of the reference (215 .. 296), as the constructors lay them -/
abbrev zKl : List (Nat × Nat) := [(11, 20), (20, 1600), (9, 5), (7, 5), (3, 5), (20, 1616), (20, 3), (20, 3), (20, 64), (20, 33), (4, 5), (2, 3), (20, 6), (1, 12), (20, 2), (20, 72), (20, 12), (20, 12), (20, 12), (21, 72), (20, 72), (20, 72), (3, 5), (20, 1616), (20, 3), (20, 3), (20, 64), (1, 12), (20, 2), (20, 72), (20, 12), (20, 12), (20, 12), (21, 72), (20, 72), (20, 72), (3, 5), (20, 1616), (20, 3), (20, 3), (20, 64), (8, 8), (20, 12), (20, 12), (20, 12), (20, 12), (20, 72), (20, 72), (10, 5), (20, 12), (20, 6), (20, 9), (20, 12), (0, 4), (8, 8), (20, 12), (20, 12), (20, 12), (20, 12), (20, 72), (20, 72), (20, 4), (20, 310), (5, 4), (20, 12), (20, 72), (20, 448), (20, 6), (6, 6), (24, 20), (20, 20), (20, 640), (8, 8), (20, 12), (20, 12), (20, 12), (20, 12), (20, 72), (20, 72), (8, 8), (20, 12), (20, 12), (20, 12), (20, 12), (20, 72), (20, 72), (8, 8), (20, 12), (20, 12), (20, 12), (20, 12), (20, 72), (20, 72), (8, 8), (20, 12), (20, 12), (20, 12), (20, 12), (20, 72), (20, 72), (8, 8), (20, 12), (20, 12), (20, 12), (20, 12), (20, 72), (20, 72), (8, 8), (20, 12), (20, 12), (20, 12), (20, 12), (20, 72), (20, 72), (8, 8), (20, 12), (20, 12), (20, 12), (20, 12), (20, 72), (20, 72), (8, 8), (20, 12), (20, 12), (20, 12), (20, 12), (20, 72), (20, 72), (8, 8), (20, 12), (20, 12), (20, 12), (20, 12), (20, 72), (20, 72), (8, 8), (20, 12), (20, 12), (20, 12), (20, 12), (20, 72), (20, 72), (8, 8), (20, 12), (20, 12), (20, 12), (20, 12), (20, 72), (20, 72), (8, 8), (20, 12), (20, 12), (20, 12), (20, 12), (20, 72), (20, 72), (8, 8), (20, 12), (20, 12), (20, 12), (20, 12), (20, 72), (20, 72), (8, 8), (20, 12), (20, 12), (20, 12), (20, 12), (20, 72), (20, 72), (8, 8), (20, 12), (20, 12), (20, 12), (20, 12), (20, 72), (20, 72), (8, 8), (20, 12), (20, 12), (20, 12), (20, 12), (20, 72), (20, 72), (8, 8), (20, 12), (20, 12), (20, 12), (20, 12), (20, 72), (20, 72), (8, 8), (20, 12), (20, 12), (20, 12), (20, 12), (20, 72), (20, 72), (8, 8), (20, 12), (20, 12), (20, 12), (20, 12), (20, 72), (20, 72), (8, 8), (20, 12), (20, 12), (20, 12), (20, 12), (20, 72), (20, 72), (20, 48), (20, 184), (20, 6), (12, 116), (20, 1600), (20, 6), (22, 4), (22, 5), (22, 4), (22, 4), (22, 4), (22, 3), (22, 5), (22, 5), (22, 6), (22, 5), (22, 4), (22, 6), (22, 4), (22, 6), (22, 5), (22, 4), (22, 5), (22, 6), (22, 6), (22, 6), (22, 4), (22, 3), (22, 2), (22, 3), (22, 3), (22, 3), (22, 3), (22, 3), (20, 12), (23, 24), (20, 72), (21, 72), (20, 72), (20, 72), (20, 6), (20, 6), (20, 3200), (20, 343), (20, 12), (20, 12), (20, 182), (21, 12), (20, 12), (20, 448), (20, 12), (21, 36), (20, 48), (20, 310), (20, 6860), (22, 5), (22, 4), (22, 5), (22, 5), (22, 4), (22, 5), (22, 3), (22, 3), (22, 2), (22, 3), (22, 3), (22, 3), (22, 5), (22, 6), (22, 4), (22, 4), (22, 4), (22, 6), (22, 4), (22, 5), (22, 6), (22, 6), (22, 4), (22, 3), (22, 5), (22, 5), (20, 1700), (20, 1700), (23, 1700), (20, 184)]
def zK (a : Nat) : Nat × Nat := zKl.getD a (0, 0)
/-- what can be another one: the church, the spare one, the one that is walked by, the code and the words of the grammar -/
abbrev zRh : Type := Nat × Nat × Nat × Nat × Nat
def zRl (ρ : zRh) : List (List (Option Nat)) := [[some 1, none, some 2, some 3, some 11, some ρ.1, some ρ.2.1, some 41, some 48, some 53, some 63, some 68, some 212, none, some 213, none, some 214], [], [some 1], [some 2, some 4, some 10, some 9], [some 5, none, some 6, some 7, some 8], [], [], [], [], [], [some 2, some ρ.2.2.2.1, some ρ.2.2.2.2], [some 2, some 10, some 12], [], [some 14, some 15, some 16, some 17, some 18, some 19, none, some 20, some 21, none, none, some 22], [], [], [], [], [], [], [], [], [some 23, none, some 24, some 25, some 26], [], [], [], [], [some 28, some 29, some 30, some 31, some 32, some 33, none, some 34, some 35, none, none, some 36], [], [], [], [], [], [], [], [], [some 37, none, some 38, some 39, some 40], [], [], [], [], [none, none, some 42, some 43, some 44, some 45, some 46, some 47], [], [], [], [], [], [], [some ρ.2.2.1, some 49, some 50, some 51, some 52], [], [], [], [], [some 54, some 61, some 48, some 62], [none, none, some 55, some 56, some 57, some 58, some 59, some 60], [], [], [], [], [], [], [], [], [some 64, some 65, some 66, some 67], [], [], [], [], [none, none, some 69, some 70, some 71], [some 72, some 79, some 86, some 93, some 100, some 107, some 114, some 121, some 128, some 135, some 142, some 149, some 156, some 163, some 170, some 177, some 184, some 191, some 198, some 205], [], [], [none, none, some 73, some 74, some 75, some 76, some 77, some 78], [], [], [], [], [], [], [none, none, some 80, some 81, some 82, some 83, some 84, some 85], [], [], [], [], [], [], [none, none, some 87, some 88, some 89, some 90, some 91, some 92], [], [], [], [], [], [], [none, none, some 94, some 95, some 96, some 97, some 98, some 99], [], [], [], [], [], [], [none, none, some 101, some 102, some 103, some 104, some 105, some 106], [], [], [], [], [], [], [none, none, some 108, some 109, some 110, some 111, some 112, some 113], [], [], [], [], [], [], [none, none, some 115, some 116, some 117, some 118, some 119, some 120], [], [], [], [], [], [], [none, none, some 122, some 123, some 124, some 125, some 126, some 127], [], [], [], [], [], [], [none, none, some 129, some 130, some 131, some 132, some 133, some 134], [], [], [], [], [], [], [none, none, some 136, some 137, some 138, some 139, some 140, some 141], [], [], [], [], [], [], [none, none, some 143, some 144, some 145, some 146, some 147, some 148], [], [], [], [], [], [], [none, none, some 150, some 151, some 152, some 153, some 154, some 155], [], [], [], [], [], [], [none, none, some 157, some 158, some 159, some 160, some 161, some 162], [], [], [], [], [], [], [none, none, some 164, some 165, some 166, some 167, some 168, some 169], [], [], [], [], [], [], [none, none, some 171, some 172, some 173, some 174, some 175, some 176], [], [], [], [], [], [], [none, none, some 178, some 179, some 180, some 181, some 182, some 183], [], [], [], [], [], [], [none, none, some 185, some 186, some 187, some 188, some 189, some 190], [], [], [], [], [], [], [none, none, some 192, some 193, some 194, some 195, some 196, some 197], [], [], [], [], [], [], [none, none, some 199, some 200, some 201, some 202, some 203, some 204], [], [], [], [], [], [], [none, none, some 206, some 207, some 208, some 209, some 210, some 211], [], [], [], [], [], [], [], [], [], [some 216, none, none, none, none, none, none, none, none, some 217, none, some 218, some 219, some 220, some 221, some 222, some 223, some 224, some 225, some 226, some 227, some 228, some 229, some 230, some 231, some 232, some 233, some 234, some 235, some 236, some 237, some 238, some 239, some 240, some 241, some 242, some 243, some 244, some 245, none, some 246, some 247, some 248, some 249, some 250, some 251, some 252, some 253, some 254, none, none, none, some 255, none, none, none, none, none, none, none, none, some 256, some 257, none, none, some 258, some 259, some 260, some 261, some 262, some 263, none, some 264, some 265, some 266, none, none, none, some 267, some 268, some 269, some 270, some 271, some 272, some 273, some 274, some 275, some 276, some 277, some 278, some 279, some 280, some 281, some 282, some 283, some 284, some 285, some 286, some 287, some 288, some 289, some 290, some 291, some 292, some 293, none, some 294, none, none, none, some 295, none, none, none, some 296], [], [], [], [], [], [], [], [], [], [], [], [], [], [], [], [], [], [], [], [], [], [], [], [], [], [], [], [], [], [], [], [], [], [], [], [], [], [], [], [], [], [], [], [], [], [], [], [], [], [], [], [], [], [], [], [], [], [], [], [], [], [], [], [], [], [], [], [], [], [], [], [], [], [], [], [], [], [], [], [], []]
def zRf (ρ : zRh) (a k : Nat) : Option Nat := ((zRl ρ).getD a []).getD k none
abbrev hp (I : Nat → Nat → Int32) (L : Nat → Nat → Int64) (ρ : zRh) : zH := ((297, zK), I, L, zRf ρ)
theorem zK_0 : zK 0 = (11, 20) := rfl
theorem zK_1 : zK 1 = (20, 1600) := rfl
theorem zK_2 : zK 2 = (9, 5) := rfl
theorem zK_3 : zK 3 = (7, 5) := rfl
theorem zK_4 : zK 4 = (3, 5) := rfl
theorem zK_5 : zK 5 = (20, 1616) := rfl
theorem zK_6 : zK 6 = (20, 3) := rfl
theorem zK_7 : zK 7 = (20, 3) := rfl
theorem zK_8 : zK 8 = (20, 64) := rfl
theorem zK_9 : zK 9 = (20, 33) := rfl
theorem zK_10 : zK 10 = (4, 5) := rfl
theorem zK_11 : zK 11 = (2, 3) := rfl
theorem zK_12 : zK 12 = (20, 6) := rfl
theorem zK_13 : zK 13 = (1, 12) := rfl
theorem zK_14 : zK 14 = (20, 2) := rfl
theorem zK_15 : zK 15 = (20, 72) := rfl
theorem zK_16 : zK 16 = (20, 12) := rfl
theorem zK_17 : zK 17 = (20, 12) := rfl
theorem zK_18 : zK 18 = (20, 12) := rfl
theorem zK_19 : zK 19 = (21, 72) := rfl
theorem zK_20 : zK 20 = (20, 72) := rfl
theorem zK_21 : zK 21 = (20, 72) := rfl
theorem zK_22 : zK 22 = (3, 5) := rfl
theorem zK_23 : zK 23 = (20, 1616) := rfl
theorem zK_24 : zK 24 = (20, 3) := rfl
theorem zK_25 : zK 25 = (20, 3) := rfl
theorem zK_26 : zK 26 = (20, 64) := rfl
theorem zK_27 : zK 27 = (1, 12) := rfl
theorem zK_28 : zK 28 = (20, 2) := rfl
theorem zK_29 : zK 29 = (20, 72) := rfl
theorem zK_30 : zK 30 = (20, 12) := rfl
theorem zK_31 : zK 31 = (20, 12) := rfl
theorem zK_32 : zK 32 = (20, 12) := rfl
theorem zK_33 : zK 33 = (21, 72) := rfl
theorem zK_34 : zK 34 = (20, 72) := rfl
theorem zK_35 : zK 35 = (20, 72) := rfl
theorem zK_36 : zK 36 = (3, 5) := rfl
theorem zK_37 : zK 37 = (20, 1616) := rfl
theorem zK_38 : zK 38 = (20, 3) := rfl
theorem zK_39 : zK 39 = (20, 3) := rfl
theorem zK_40 : zK 40 = (20, 64) := rfl
theorem zK_41 : zK 41 = (8, 8) := rfl
theorem zK_42 : zK 42 = (20, 12) := rfl
theorem zK_43 : zK 43 = (20, 12) := rfl
theorem zK_44 : zK 44 = (20, 12) := rfl
theorem zK_45 : zK 45 = (20, 12) := rfl
theorem zK_46 : zK 46 = (20, 72) := rfl
theorem zK_47 : zK 47 = (20, 72) := rfl
theorem zK_48 : zK 48 = (10, 5) := rfl
theorem zK_49 : zK 49 = (20, 12) := rfl
theorem zK_50 : zK 50 = (20, 6) := rfl
theorem zK_51 : zK 51 = (20, 9) := rfl
theorem zK_52 : zK 52 = (20, 12) := rfl
theorem zK_53 : zK 53 = (0, 4) := rfl
theorem zK_54 : zK 54 = (8, 8) := rfl
theorem zK_55 : zK 55 = (20, 12) := rfl
theorem zK_56 : zK 56 = (20, 12) := rfl
theorem zK_57 : zK 57 = (20, 12) := rfl
theorem zK_58 : zK 58 = (20, 12) := rfl
theorem zK_59 : zK 59 = (20, 72) := rfl
theorem zK_60 : zK 60 = (20, 72) := rfl
theorem zK_61 : zK 61 = (20, 4) := rfl
theorem zK_62 : zK 62 = (20, 310) := rfl
theorem zK_63 : zK 63 = (5, 4) := rfl
theorem zK_64 : zK 64 = (20, 12) := rfl
theorem zK_65 : zK 65 = (20, 72) := rfl
theorem zK_66 : zK 66 = (20, 448) := rfl
theorem zK_67 : zK 67 = (20, 6) := rfl
theorem zK_68 : zK 68 = (6, 6) := rfl
theorem zK_69 : zK 69 = (24, 20) := rfl
theorem zK_70 : zK 70 = (20, 20) := rfl
theorem zK_71 : zK 71 = (20, 640) := rfl
theorem zK_72 : zK 72 = (8, 8) := rfl
theorem zK_73 : zK 73 = (20, 12) := rfl
theorem zK_74 : zK 74 = (20, 12) := rfl
theorem zK_75 : zK 75 = (20, 12) := rfl
theorem zK_76 : zK 76 = (20, 12) := rfl
theorem zK_77 : zK 77 = (20, 72) := rfl
theorem zK_78 : zK 78 = (20, 72) := rfl
theorem zK_79 : zK 79 = (8, 8) := rfl
theorem zK_80 : zK 80 = (20, 12) := rfl
theorem zK_81 : zK 81 = (20, 12) := rfl
theorem zK_82 : zK 82 = (20, 12) := rfl
theorem zK_83 : zK 83 = (20, 12) := rfl
theorem zK_84 : zK 84 = (20, 72) := rfl
theorem zK_85 : zK 85 = (20, 72) := rfl
theorem zK_86 : zK 86 = (8, 8) := rfl
theorem zK_87 : zK 87 = (20, 12) := rfl
theorem zK_88 : zK 88 = (20, 12) := rfl
theorem zK_89 : zK 89 = (20, 12) := rfl
theorem zK_90 : zK 90 = (20, 12) := rfl
theorem zK_91 : zK 91 = (20, 72) := rfl
theorem zK_92 : zK 92 = (20, 72) := rfl
theorem zK_93 : zK 93 = (8, 8) := rfl
theorem zK_94 : zK 94 = (20, 12) := rfl
theorem zK_95 : zK 95 = (20, 12) := rfl
theorem zK_96 : zK 96 = (20, 12) := rfl
theorem zK_97 : zK 97 = (20, 12) := rfl
theorem zK_98 : zK 98 = (20, 72) := rfl
theorem zK_99 : zK 99 = (20, 72) := rfl
theorem zK_100 : zK 100 = (8, 8) := rfl
theorem zK_101 : zK 101 = (20, 12) := rfl
theorem zK_102 : zK 102 = (20, 12) := rfl
theorem zK_103 : zK 103 = (20, 12) := rfl
theorem zK_104 : zK 104 = (20, 12) := rfl
theorem zK_105 : zK 105 = (20, 72) := rfl
theorem zK_106 : zK 106 = (20, 72) := rfl
theorem zK_107 : zK 107 = (8, 8) := rfl
theorem zK_108 : zK 108 = (20, 12) := rfl
theorem zK_109 : zK 109 = (20, 12) := rfl
theorem zK_110 : zK 110 = (20, 12) := rfl
theorem zK_111 : zK 111 = (20, 12) := rfl
theorem zK_112 : zK 112 = (20, 72) := rfl
theorem zK_113 : zK 113 = (20, 72) := rfl
theorem zK_114 : zK 114 = (8, 8) := rfl
theorem zK_115 : zK 115 = (20, 12) := rfl
theorem zK_116 : zK 116 = (20, 12) := rfl
theorem zK_117 : zK 117 = (20, 12) := rfl
theorem zK_118 : zK 118 = (20, 12) := rfl
theorem zK_119 : zK 119 = (20, 72) := rfl
theorem zK_120 : zK 120 = (20, 72) := rfl
theorem zK_121 : zK 121 = (8, 8) := rfl
theorem zK_122 : zK 122 = (20, 12) := rfl
theorem zK_123 : zK 123 = (20, 12) := rfl
theorem zK_124 : zK 124 = (20, 12) := rfl
theorem zK_125 : zK 125 = (20, 12) := rfl
theorem zK_126 : zK 126 = (20, 72) := rfl
theorem zK_127 : zK 127 = (20, 72) := rfl
theorem zK_128 : zK 128 = (8, 8) := rfl
theorem zK_129 : zK 129 = (20, 12) := rfl
theorem zK_130 : zK 130 = (20, 12) := rfl
theorem zK_131 : zK 131 = (20, 12) := rfl
theorem zK_132 : zK 132 = (20, 12) := rfl
theorem zK_133 : zK 133 = (20, 72) := rfl
theorem zK_134 : zK 134 = (20, 72) := rfl
theorem zK_135 : zK 135 = (8, 8) := rfl
theorem zK_136 : zK 136 = (20, 12) := rfl
theorem zK_137 : zK 137 = (20, 12) := rfl
theorem zK_138 : zK 138 = (20, 12) := rfl
theorem zK_139 : zK 139 = (20, 12) := rfl
theorem zK_140 : zK 140 = (20, 72) := rfl
theorem zK_141 : zK 141 = (20, 72) := rfl
theorem zK_142 : zK 142 = (8, 8) := rfl
theorem zK_143 : zK 143 = (20, 12) := rfl
theorem zK_144 : zK 144 = (20, 12) := rfl
theorem zK_145 : zK 145 = (20, 12) := rfl
theorem zK_146 : zK 146 = (20, 12) := rfl
theorem zK_147 : zK 147 = (20, 72) := rfl
theorem zK_148 : zK 148 = (20, 72) := rfl
theorem zK_149 : zK 149 = (8, 8) := rfl
theorem zK_150 : zK 150 = (20, 12) := rfl
theorem zK_151 : zK 151 = (20, 12) := rfl
theorem zK_152 : zK 152 = (20, 12) := rfl
theorem zK_153 : zK 153 = (20, 12) := rfl
theorem zK_154 : zK 154 = (20, 72) := rfl
theorem zK_155 : zK 155 = (20, 72) := rfl
theorem zK_156 : zK 156 = (8, 8) := rfl
theorem zK_157 : zK 157 = (20, 12) := rfl
theorem zK_158 : zK 158 = (20, 12) := rfl
theorem zK_159 : zK 159 = (20, 12) := rfl
theorem zK_160 : zK 160 = (20, 12) := rfl
theorem zK_161 : zK 161 = (20, 72) := rfl
theorem zK_162 : zK 162 = (20, 72) := rfl
theorem zK_163 : zK 163 = (8, 8) := rfl
theorem zK_164 : zK 164 = (20, 12) := rfl
theorem zK_165 : zK 165 = (20, 12) := rfl
theorem zK_166 : zK 166 = (20, 12) := rfl
theorem zK_167 : zK 167 = (20, 12) := rfl
theorem zK_168 : zK 168 = (20, 72) := rfl
theorem zK_169 : zK 169 = (20, 72) := rfl
theorem zK_170 : zK 170 = (8, 8) := rfl
theorem zK_171 : zK 171 = (20, 12) := rfl
theorem zK_172 : zK 172 = (20, 12) := rfl
theorem zK_173 : zK 173 = (20, 12) := rfl
theorem zK_174 : zK 174 = (20, 12) := rfl
theorem zK_175 : zK 175 = (20, 72) := rfl
theorem zK_176 : zK 176 = (20, 72) := rfl
theorem zK_177 : zK 177 = (8, 8) := rfl
theorem zK_178 : zK 178 = (20, 12) := rfl
theorem zK_179 : zK 179 = (20, 12) := rfl
theorem zK_180 : zK 180 = (20, 12) := rfl
theorem zK_181 : zK 181 = (20, 12) := rfl
theorem zK_182 : zK 182 = (20, 72) := rfl
theorem zK_183 : zK 183 = (20, 72) := rfl
theorem zK_184 : zK 184 = (8, 8) := rfl
theorem zK_185 : zK 185 = (20, 12) := rfl
theorem zK_186 : zK 186 = (20, 12) := rfl
theorem zK_187 : zK 187 = (20, 12) := rfl
theorem zK_188 : zK 188 = (20, 12) := rfl
theorem zK_189 : zK 189 = (20, 72) := rfl
theorem zK_190 : zK 190 = (20, 72) := rfl
theorem zK_191 : zK 191 = (8, 8) := rfl
theorem zK_192 : zK 192 = (20, 12) := rfl
theorem zK_193 : zK 193 = (20, 12) := rfl
theorem zK_194 : zK 194 = (20, 12) := rfl
theorem zK_195 : zK 195 = (20, 12) := rfl
theorem zK_196 : zK 196 = (20, 72) := rfl
theorem zK_197 : zK 197 = (20, 72) := rfl
theorem zK_198 : zK 198 = (8, 8) := rfl
theorem zK_199 : zK 199 = (20, 12) := rfl
theorem zK_200 : zK 200 = (20, 12) := rfl
theorem zK_201 : zK 201 = (20, 12) := rfl
theorem zK_202 : zK 202 = (20, 12) := rfl
theorem zK_203 : zK 203 = (20, 72) := rfl
theorem zK_204 : zK 204 = (20, 72) := rfl
theorem zK_205 : zK 205 = (8, 8) := rfl
theorem zK_206 : zK 206 = (20, 12) := rfl
theorem zK_207 : zK 207 = (20, 12) := rfl
theorem zK_208 : zK 208 = (20, 12) := rfl
theorem zK_209 : zK 209 = (20, 12) := rfl
theorem zK_210 : zK 210 = (20, 72) := rfl
theorem zK_211 : zK 211 = (20, 72) := rfl
theorem zK_212 : zK 212 = (20, 48) := rfl
theorem zK_213 : zK 213 = (20, 184) := rfl
theorem zK_214 : zK 214 = (20, 6) := rfl
theorem zK_215 : zK 215 = (12, 116) := rfl
theorem zK_216 : zK 216 = (20, 1600) := rfl
theorem zK_217 : zK 217 = (20, 6) := rfl
theorem zK_218 : zK 218 = (22, 4) := rfl
theorem zK_219 : zK 219 = (22, 5) := rfl
theorem zK_220 : zK 220 = (22, 4) := rfl
theorem zK_221 : zK 221 = (22, 4) := rfl
theorem zK_222 : zK 222 = (22, 4) := rfl
theorem zK_223 : zK 223 = (22, 3) := rfl
theorem zK_224 : zK 224 = (22, 5) := rfl
theorem zK_225 : zK 225 = (22, 5) := rfl
theorem zK_226 : zK 226 = (22, 6) := rfl
theorem zK_227 : zK 227 = (22, 5) := rfl
theorem zK_228 : zK 228 = (22, 4) := rfl
theorem zK_229 : zK 229 = (22, 6) := rfl
theorem zK_230 : zK 230 = (22, 4) := rfl
theorem zK_231 : zK 231 = (22, 6) := rfl
theorem zK_232 : zK 232 = (22, 5) := rfl
theorem zK_233 : zK 233 = (22, 4) := rfl
theorem zK_234 : zK 234 = (22, 5) := rfl
theorem zK_235 : zK 235 = (22, 6) := rfl
theorem zK_236 : zK 236 = (22, 6) := rfl
theorem zK_237 : zK 237 = (22, 6) := rfl
theorem zK_238 : zK 238 = (22, 4) := rfl
theorem zK_239 : zK 239 = (22, 3) := rfl
theorem zK_240 : zK 240 = (22, 2) := rfl
theorem zK_241 : zK 241 = (22, 3) := rfl
theorem zK_242 : zK 242 = (22, 3) := rfl
theorem zK_243 : zK 243 = (22, 3) := rfl
theorem zK_244 : zK 244 = (22, 3) := rfl
theorem zK_245 : zK 245 = (22, 3) := rfl
theorem zK_246 : zK 246 = (20, 12) := rfl
theorem zK_247 : zK 247 = (23, 24) := rfl
theorem zK_248 : zK 248 = (20, 72) := rfl
theorem zK_249 : zK 249 = (21, 72) := rfl
theorem zK_250 : zK 250 = (20, 72) := rfl
theorem zK_251 : zK 251 = (20, 72) := rfl
theorem zK_252 : zK 252 = (20, 6) := rfl
theorem zK_253 : zK 253 = (20, 6) := rfl
theorem zK_254 : zK 254 = (20, 3200) := rfl
theorem zK_255 : zK 255 = (20, 343) := rfl
theorem zK_256 : zK 256 = (20, 12) := rfl
theorem zK_257 : zK 257 = (20, 12) := rfl
theorem zK_258 : zK 258 = (20, 182) := rfl
theorem zK_259 : zK 259 = (21, 12) := rfl
theorem zK_260 : zK 260 = (20, 12) := rfl
theorem zK_261 : zK 261 = (20, 448) := rfl
theorem zK_262 : zK 262 = (20, 12) := rfl
theorem zK_263 : zK 263 = (21, 36) := rfl
theorem zK_264 : zK 264 = (20, 48) := rfl
theorem zK_265 : zK 265 = (20, 310) := rfl
theorem zK_266 : zK 266 = (20, 6860) := rfl
theorem zK_267 : zK 267 = (22, 5) := rfl
theorem zK_268 : zK 268 = (22, 4) := rfl
theorem zK_269 : zK 269 = (22, 5) := rfl
theorem zK_270 : zK 270 = (22, 5) := rfl
theorem zK_271 : zK 271 = (22, 4) := rfl
theorem zK_272 : zK 272 = (22, 5) := rfl
theorem zK_273 : zK 273 = (22, 3) := rfl
theorem zK_274 : zK 274 = (22, 3) := rfl
theorem zK_275 : zK 275 = (22, 2) := rfl
theorem zK_276 : zK 276 = (22, 3) := rfl
theorem zK_277 : zK 277 = (22, 3) := rfl
theorem zK_278 : zK 278 = (22, 3) := rfl
theorem zK_279 : zK 279 = (22, 5) := rfl
theorem zK_280 : zK 280 = (22, 6) := rfl
theorem zK_281 : zK 281 = (22, 4) := rfl
theorem zK_282 : zK 282 = (22, 4) := rfl
theorem zK_283 : zK 283 = (22, 4) := rfl
theorem zK_284 : zK 284 = (22, 6) := rfl
theorem zK_285 : zK 285 = (22, 4) := rfl
theorem zK_286 : zK 286 = (22, 5) := rfl
theorem zK_287 : zK 287 = (22, 6) := rfl
theorem zK_288 : zK 288 = (22, 6) := rfl
theorem zK_289 : zK 289 = (22, 4) := rfl
theorem zK_290 : zK 290 = (22, 3) := rfl
theorem zK_291 : zK 291 = (22, 5) := rfl
theorem zK_292 : zK 292 = (22, 5) := rfl
theorem zK_293 : zK 293 = (20, 1700) := rfl
theorem zK_294 : zK 294 = (20, 1700) := rfl
theorem zK_295 : zK 295 = (23, 1700) := rfl
theorem zK_296 : zK 296 = (20, 184) := rfl
theorem zR_0_0 (ρ : zRh) : zRf ρ 0 0 = some 1 := rfl
theorem zR_0_2 (ρ : zRh) : zRf ρ 0 2 = some 2 := rfl
theorem zR_0_3 (ρ : zRh) : zRf ρ 0 3 = some 3 := rfl
theorem zR_0_4 (ρ : zRh) : zRf ρ 0 4 = some 11 := rfl
theorem zR_0_5 (ρ : zRh) : zRf ρ 0 5 = some ρ.1 := rfl
theorem zR_0_6 (ρ : zRh) : zRf ρ 0 6 = some ρ.2.1 := rfl
theorem zR_0_7 (ρ : zRh) : zRf ρ 0 7 = some 41 := rfl
theorem zR_0_8 (ρ : zRh) : zRf ρ 0 8 = some 48 := rfl
theorem zR_0_9 (ρ : zRh) : zRf ρ 0 9 = some 53 := rfl
theorem zR_0_10 (ρ : zRh) : zRf ρ 0 10 = some 63 := rfl
theorem zR_0_11 (ρ : zRh) : zRf ρ 0 11 = some 68 := rfl
theorem zR_0_12 (ρ : zRh) : zRf ρ 0 12 = some 212 := rfl
theorem zR_0_14 (ρ : zRh) : zRf ρ 0 14 = some 213 := rfl
theorem zR_0_16 (ρ : zRh) : zRf ρ 0 16 = some 214 := rfl
theorem zR_2_0 (ρ : zRh) : zRf ρ 2 0 = some 1 := rfl
theorem zR_3_0 (ρ : zRh) : zRf ρ 3 0 = some 2 := rfl
theorem zR_3_1 (ρ : zRh) : zRf ρ 3 1 = some 4 := rfl
theorem zR_3_2 (ρ : zRh) : zRf ρ 3 2 = some 10 := rfl
theorem zR_3_3 (ρ : zRh) : zRf ρ 3 3 = some 9 := rfl
theorem zR_4_0 (ρ : zRh) : zRf ρ 4 0 = some 5 := rfl
theorem zR_4_2 (ρ : zRh) : zRf ρ 4 2 = some 6 := rfl
theorem zR_4_3 (ρ : zRh) : zRf ρ 4 3 = some 7 := rfl
theorem zR_4_4 (ρ : zRh) : zRf ρ 4 4 = some 8 := rfl
theorem zR_10_0 (ρ : zRh) : zRf ρ 10 0 = some 2 := rfl
theorem zR_10_1 (ρ : zRh) : zRf ρ 10 1 = some ρ.2.2.2.1 := rfl
theorem zR_10_2 (ρ : zRh) : zRf ρ 10 2 = some ρ.2.2.2.2 := rfl
theorem zR_11_0 (ρ : zRh) : zRf ρ 11 0 = some 2 := rfl
theorem zR_11_1 (ρ : zRh) : zRf ρ 11 1 = some 10 := rfl
theorem zR_11_2 (ρ : zRh) : zRf ρ 11 2 = some 12 := rfl
theorem zR_13_0 (ρ : zRh) : zRf ρ 13 0 = some 14 := rfl
theorem zR_13_1 (ρ : zRh) : zRf ρ 13 1 = some 15 := rfl
theorem zR_13_2 (ρ : zRh) : zRf ρ 13 2 = some 16 := rfl
theorem zR_13_3 (ρ : zRh) : zRf ρ 13 3 = some 17 := rfl
theorem zR_13_4 (ρ : zRh) : zRf ρ 13 4 = some 18 := rfl
theorem zR_13_5 (ρ : zRh) : zRf ρ 13 5 = some 19 := rfl
theorem zR_13_7 (ρ : zRh) : zRf ρ 13 7 = some 20 := rfl
theorem zR_13_8 (ρ : zRh) : zRf ρ 13 8 = some 21 := rfl
theorem zR_13_11 (ρ : zRh) : zRf ρ 13 11 = some 22 := rfl
theorem zR_22_0 (ρ : zRh) : zRf ρ 22 0 = some 23 := rfl
theorem zR_22_2 (ρ : zRh) : zRf ρ 22 2 = some 24 := rfl
theorem zR_22_3 (ρ : zRh) : zRf ρ 22 3 = some 25 := rfl
theorem zR_22_4 (ρ : zRh) : zRf ρ 22 4 = some 26 := rfl
theorem zR_27_0 (ρ : zRh) : zRf ρ 27 0 = some 28 := rfl
theorem zR_27_1 (ρ : zRh) : zRf ρ 27 1 = some 29 := rfl
theorem zR_27_2 (ρ : zRh) : zRf ρ 27 2 = some 30 := rfl
theorem zR_27_3 (ρ : zRh) : zRf ρ 27 3 = some 31 := rfl
theorem zR_27_4 (ρ : zRh) : zRf ρ 27 4 = some 32 := rfl
theorem zR_27_5 (ρ : zRh) : zRf ρ 27 5 = some 33 := rfl
theorem zR_27_7 (ρ : zRh) : zRf ρ 27 7 = some 34 := rfl
theorem zR_27_8 (ρ : zRh) : zRf ρ 27 8 = some 35 := rfl
theorem zR_27_11 (ρ : zRh) : zRf ρ 27 11 = some 36 := rfl
theorem zR_36_0 (ρ : zRh) : zRf ρ 36 0 = some 37 := rfl
theorem zR_36_2 (ρ : zRh) : zRf ρ 36 2 = some 38 := rfl
theorem zR_36_3 (ρ : zRh) : zRf ρ 36 3 = some 39 := rfl
theorem zR_36_4 (ρ : zRh) : zRf ρ 36 4 = some 40 := rfl
theorem zR_41_2 (ρ : zRh) : zRf ρ 41 2 = some 42 := rfl
theorem zR_41_3 (ρ : zRh) : zRf ρ 41 3 = some 43 := rfl
theorem zR_41_4 (ρ : zRh) : zRf ρ 41 4 = some 44 := rfl
theorem zR_41_5 (ρ : zRh) : zRf ρ 41 5 = some 45 := rfl
theorem zR_41_6 (ρ : zRh) : zRf ρ 41 6 = some 46 := rfl
theorem zR_41_7 (ρ : zRh) : zRf ρ 41 7 = some 47 := rfl
theorem zR_48_0 (ρ : zRh) : zRf ρ 48 0 = some ρ.2.2.1 := rfl
theorem zR_48_1 (ρ : zRh) : zRf ρ 48 1 = some 49 := rfl
theorem zR_48_2 (ρ : zRh) : zRf ρ 48 2 = some 50 := rfl
theorem zR_48_3 (ρ : zRh) : zRf ρ 48 3 = some 51 := rfl
theorem zR_48_4 (ρ : zRh) : zRf ρ 48 4 = some 52 := rfl
theorem zR_53_0 (ρ : zRh) : zRf ρ 53 0 = some 54 := rfl
theorem zR_53_1 (ρ : zRh) : zRf ρ 53 1 = some 61 := rfl
theorem zR_53_2 (ρ : zRh) : zRf ρ 53 2 = some 48 := rfl
theorem zR_53_3 (ρ : zRh) : zRf ρ 53 3 = some 62 := rfl
theorem zR_54_2 (ρ : zRh) : zRf ρ 54 2 = some 55 := rfl
theorem zR_54_3 (ρ : zRh) : zRf ρ 54 3 = some 56 := rfl
theorem zR_54_4 (ρ : zRh) : zRf ρ 54 4 = some 57 := rfl
theorem zR_54_5 (ρ : zRh) : zRf ρ 54 5 = some 58 := rfl
theorem zR_54_6 (ρ : zRh) : zRf ρ 54 6 = some 59 := rfl
theorem zR_54_7 (ρ : zRh) : zRf ρ 54 7 = some 60 := rfl
theorem zR_63_0 (ρ : zRh) : zRf ρ 63 0 = some 64 := rfl
theorem zR_63_1 (ρ : zRh) : zRf ρ 63 1 = some 65 := rfl
theorem zR_63_2 (ρ : zRh) : zRf ρ 63 2 = some 66 := rfl
theorem zR_63_3 (ρ : zRh) : zRf ρ 63 3 = some 67 := rfl
theorem zR_68_2 (ρ : zRh) : zRf ρ 68 2 = some 69 := rfl
theorem zR_68_3 (ρ : zRh) : zRf ρ 68 3 = some 70 := rfl
theorem zR_68_4 (ρ : zRh) : zRf ρ 68 4 = some 71 := rfl
theorem zR_69_0 (ρ : zRh) : zRf ρ 69 0 = some 72 := rfl
theorem zR_69_1 (ρ : zRh) : zRf ρ 69 1 = some 79 := rfl
theorem zR_69_2 (ρ : zRh) : zRf ρ 69 2 = some 86 := rfl
theorem zR_69_3 (ρ : zRh) : zRf ρ 69 3 = some 93 := rfl
theorem zR_69_4 (ρ : zRh) : zRf ρ 69 4 = some 100 := rfl
theorem zR_69_5 (ρ : zRh) : zRf ρ 69 5 = some 107 := rfl
theorem zR_69_6 (ρ : zRh) : zRf ρ 69 6 = some 114 := rfl
theorem zR_69_7 (ρ : zRh) : zRf ρ 69 7 = some 121 := rfl
theorem zR_69_8 (ρ : zRh) : zRf ρ 69 8 = some 128 := rfl
theorem zR_69_9 (ρ : zRh) : zRf ρ 69 9 = some 135 := rfl
theorem zR_69_10 (ρ : zRh) : zRf ρ 69 10 = some 142 := rfl
theorem zR_69_11 (ρ : zRh) : zRf ρ 69 11 = some 149 := rfl
theorem zR_69_12 (ρ : zRh) : zRf ρ 69 12 = some 156 := rfl
theorem zR_69_13 (ρ : zRh) : zRf ρ 69 13 = some 163 := rfl
theorem zR_69_14 (ρ : zRh) : zRf ρ 69 14 = some 170 := rfl
theorem zR_69_15 (ρ : zRh) : zRf ρ 69 15 = some 177 := rfl
theorem zR_69_16 (ρ : zRh) : zRf ρ 69 16 = some 184 := rfl
theorem zR_69_17 (ρ : zRh) : zRf ρ 69 17 = some 191 := rfl
theorem zR_69_18 (ρ : zRh) : zRf ρ 69 18 = some 198 := rfl
theorem zR_69_19 (ρ : zRh) : zRf ρ 69 19 = some 205 := rfl
theorem zR_72_2 (ρ : zRh) : zRf ρ 72 2 = some 73 := rfl
theorem zR_72_3 (ρ : zRh) : zRf ρ 72 3 = some 74 := rfl
theorem zR_72_4 (ρ : zRh) : zRf ρ 72 4 = some 75 := rfl
theorem zR_72_5 (ρ : zRh) : zRf ρ 72 5 = some 76 := rfl
theorem zR_72_6 (ρ : zRh) : zRf ρ 72 6 = some 77 := rfl
theorem zR_72_7 (ρ : zRh) : zRf ρ 72 7 = some 78 := rfl
theorem zR_79_2 (ρ : zRh) : zRf ρ 79 2 = some 80 := rfl
theorem zR_79_3 (ρ : zRh) : zRf ρ 79 3 = some 81 := rfl
theorem zR_79_4 (ρ : zRh) : zRf ρ 79 4 = some 82 := rfl
theorem zR_79_5 (ρ : zRh) : zRf ρ 79 5 = some 83 := rfl
theorem zR_79_6 (ρ : zRh) : zRf ρ 79 6 = some 84 := rfl
theorem zR_79_7 (ρ : zRh) : zRf ρ 79 7 = some 85 := rfl
theorem zR_86_2 (ρ : zRh) : zRf ρ 86 2 = some 87 := rfl
theorem zR_86_3 (ρ : zRh) : zRf ρ 86 3 = some 88 := rfl
theorem zR_86_4 (ρ : zRh) : zRf ρ 86 4 = some 89 := rfl
theorem zR_86_5 (ρ : zRh) : zRf ρ 86 5 = some 90 := rfl
theorem zR_86_6 (ρ : zRh) : zRf ρ 86 6 = some 91 := rfl
theorem zR_86_7 (ρ : zRh) : zRf ρ 86 7 = some 92 := rfl
theorem zR_93_2 (ρ : zRh) : zRf ρ 93 2 = some 94 := rfl
theorem zR_93_3 (ρ : zRh) : zRf ρ 93 3 = some 95 := rfl
theorem zR_93_4 (ρ : zRh) : zRf ρ 93 4 = some 96 := rfl
theorem zR_93_5 (ρ : zRh) : zRf ρ 93 5 = some 97 := rfl
theorem zR_93_6 (ρ : zRh) : zRf ρ 93 6 = some 98 := rfl
theorem zR_93_7 (ρ : zRh) : zRf ρ 93 7 = some 99 := rfl
theorem zR_100_2 (ρ : zRh) : zRf ρ 100 2 = some 101 := rfl
theorem zR_100_3 (ρ : zRh) : zRf ρ 100 3 = some 102 := rfl
theorem zR_100_4 (ρ : zRh) : zRf ρ 100 4 = some 103 := rfl
theorem zR_100_5 (ρ : zRh) : zRf ρ 100 5 = some 104 := rfl
theorem zR_100_6 (ρ : zRh) : zRf ρ 100 6 = some 105 := rfl
theorem zR_100_7 (ρ : zRh) : zRf ρ 100 7 = some 106 := rfl
theorem zR_107_2 (ρ : zRh) : zRf ρ 107 2 = some 108 := rfl
theorem zR_107_3 (ρ : zRh) : zRf ρ 107 3 = some 109 := rfl
theorem zR_107_4 (ρ : zRh) : zRf ρ 107 4 = some 110 := rfl
theorem zR_107_5 (ρ : zRh) : zRf ρ 107 5 = some 111 := rfl
theorem zR_107_6 (ρ : zRh) : zRf ρ 107 6 = some 112 := rfl
theorem zR_107_7 (ρ : zRh) : zRf ρ 107 7 = some 113 := rfl
theorem zR_114_2 (ρ : zRh) : zRf ρ 114 2 = some 115 := rfl
theorem zR_114_3 (ρ : zRh) : zRf ρ 114 3 = some 116 := rfl
theorem zR_114_4 (ρ : zRh) : zRf ρ 114 4 = some 117 := rfl
theorem zR_114_5 (ρ : zRh) : zRf ρ 114 5 = some 118 := rfl
theorem zR_114_6 (ρ : zRh) : zRf ρ 114 6 = some 119 := rfl
theorem zR_114_7 (ρ : zRh) : zRf ρ 114 7 = some 120 := rfl
theorem zR_121_2 (ρ : zRh) : zRf ρ 121 2 = some 122 := rfl
theorem zR_121_3 (ρ : zRh) : zRf ρ 121 3 = some 123 := rfl
theorem zR_121_4 (ρ : zRh) : zRf ρ 121 4 = some 124 := rfl
theorem zR_121_5 (ρ : zRh) : zRf ρ 121 5 = some 125 := rfl
theorem zR_121_6 (ρ : zRh) : zRf ρ 121 6 = some 126 := rfl
theorem zR_121_7 (ρ : zRh) : zRf ρ 121 7 = some 127 := rfl
theorem zR_128_2 (ρ : zRh) : zRf ρ 128 2 = some 129 := rfl
theorem zR_128_3 (ρ : zRh) : zRf ρ 128 3 = some 130 := rfl
theorem zR_128_4 (ρ : zRh) : zRf ρ 128 4 = some 131 := rfl
theorem zR_128_5 (ρ : zRh) : zRf ρ 128 5 = some 132 := rfl
theorem zR_128_6 (ρ : zRh) : zRf ρ 128 6 = some 133 := rfl
theorem zR_128_7 (ρ : zRh) : zRf ρ 128 7 = some 134 := rfl
theorem zR_135_2 (ρ : zRh) : zRf ρ 135 2 = some 136 := rfl
theorem zR_135_3 (ρ : zRh) : zRf ρ 135 3 = some 137 := rfl
theorem zR_135_4 (ρ : zRh) : zRf ρ 135 4 = some 138 := rfl
theorem zR_135_5 (ρ : zRh) : zRf ρ 135 5 = some 139 := rfl
theorem zR_135_6 (ρ : zRh) : zRf ρ 135 6 = some 140 := rfl
theorem zR_135_7 (ρ : zRh) : zRf ρ 135 7 = some 141 := rfl
theorem zR_142_2 (ρ : zRh) : zRf ρ 142 2 = some 143 := rfl
theorem zR_142_3 (ρ : zRh) : zRf ρ 142 3 = some 144 := rfl
theorem zR_142_4 (ρ : zRh) : zRf ρ 142 4 = some 145 := rfl
theorem zR_142_5 (ρ : zRh) : zRf ρ 142 5 = some 146 := rfl
theorem zR_142_6 (ρ : zRh) : zRf ρ 142 6 = some 147 := rfl
theorem zR_142_7 (ρ : zRh) : zRf ρ 142 7 = some 148 := rfl
theorem zR_149_2 (ρ : zRh) : zRf ρ 149 2 = some 150 := rfl
theorem zR_149_3 (ρ : zRh) : zRf ρ 149 3 = some 151 := rfl
theorem zR_149_4 (ρ : zRh) : zRf ρ 149 4 = some 152 := rfl
theorem zR_149_5 (ρ : zRh) : zRf ρ 149 5 = some 153 := rfl
theorem zR_149_6 (ρ : zRh) : zRf ρ 149 6 = some 154 := rfl
theorem zR_149_7 (ρ : zRh) : zRf ρ 149 7 = some 155 := rfl
theorem zR_156_2 (ρ : zRh) : zRf ρ 156 2 = some 157 := rfl
theorem zR_156_3 (ρ : zRh) : zRf ρ 156 3 = some 158 := rfl
theorem zR_156_4 (ρ : zRh) : zRf ρ 156 4 = some 159 := rfl
theorem zR_156_5 (ρ : zRh) : zRf ρ 156 5 = some 160 := rfl
theorem zR_156_6 (ρ : zRh) : zRf ρ 156 6 = some 161 := rfl
theorem zR_156_7 (ρ : zRh) : zRf ρ 156 7 = some 162 := rfl
theorem zR_163_2 (ρ : zRh) : zRf ρ 163 2 = some 164 := rfl
theorem zR_163_3 (ρ : zRh) : zRf ρ 163 3 = some 165 := rfl
theorem zR_163_4 (ρ : zRh) : zRf ρ 163 4 = some 166 := rfl
theorem zR_163_5 (ρ : zRh) : zRf ρ 163 5 = some 167 := rfl
theorem zR_163_6 (ρ : zRh) : zRf ρ 163 6 = some 168 := rfl
theorem zR_163_7 (ρ : zRh) : zRf ρ 163 7 = some 169 := rfl
theorem zR_170_2 (ρ : zRh) : zRf ρ 170 2 = some 171 := rfl
theorem zR_170_3 (ρ : zRh) : zRf ρ 170 3 = some 172 := rfl
theorem zR_170_4 (ρ : zRh) : zRf ρ 170 4 = some 173 := rfl
theorem zR_170_5 (ρ : zRh) : zRf ρ 170 5 = some 174 := rfl
theorem zR_170_6 (ρ : zRh) : zRf ρ 170 6 = some 175 := rfl
theorem zR_170_7 (ρ : zRh) : zRf ρ 170 7 = some 176 := rfl
theorem zR_177_2 (ρ : zRh) : zRf ρ 177 2 = some 178 := rfl
theorem zR_177_3 (ρ : zRh) : zRf ρ 177 3 = some 179 := rfl
theorem zR_177_4 (ρ : zRh) : zRf ρ 177 4 = some 180 := rfl
theorem zR_177_5 (ρ : zRh) : zRf ρ 177 5 = some 181 := rfl
theorem zR_177_6 (ρ : zRh) : zRf ρ 177 6 = some 182 := rfl
theorem zR_177_7 (ρ : zRh) : zRf ρ 177 7 = some 183 := rfl
theorem zR_184_2 (ρ : zRh) : zRf ρ 184 2 = some 185 := rfl
theorem zR_184_3 (ρ : zRh) : zRf ρ 184 3 = some 186 := rfl
theorem zR_184_4 (ρ : zRh) : zRf ρ 184 4 = some 187 := rfl
theorem zR_184_5 (ρ : zRh) : zRf ρ 184 5 = some 188 := rfl
theorem zR_184_6 (ρ : zRh) : zRf ρ 184 6 = some 189 := rfl
theorem zR_184_7 (ρ : zRh) : zRf ρ 184 7 = some 190 := rfl
theorem zR_191_2 (ρ : zRh) : zRf ρ 191 2 = some 192 := rfl
theorem zR_191_3 (ρ : zRh) : zRf ρ 191 3 = some 193 := rfl
theorem zR_191_4 (ρ : zRh) : zRf ρ 191 4 = some 194 := rfl
theorem zR_191_5 (ρ : zRh) : zRf ρ 191 5 = some 195 := rfl
theorem zR_191_6 (ρ : zRh) : zRf ρ 191 6 = some 196 := rfl
theorem zR_191_7 (ρ : zRh) : zRf ρ 191 7 = some 197 := rfl
theorem zR_198_2 (ρ : zRh) : zRf ρ 198 2 = some 199 := rfl
theorem zR_198_3 (ρ : zRh) : zRf ρ 198 3 = some 200 := rfl
theorem zR_198_4 (ρ : zRh) : zRf ρ 198 4 = some 201 := rfl
theorem zR_198_5 (ρ : zRh) : zRf ρ 198 5 = some 202 := rfl
theorem zR_198_6 (ρ : zRh) : zRf ρ 198 6 = some 203 := rfl
theorem zR_198_7 (ρ : zRh) : zRf ρ 198 7 = some 204 := rfl
theorem zR_205_2 (ρ : zRh) : zRf ρ 205 2 = some 206 := rfl
theorem zR_205_3 (ρ : zRh) : zRf ρ 205 3 = some 207 := rfl
theorem zR_205_4 (ρ : zRh) : zRf ρ 205 4 = some 208 := rfl
theorem zR_205_5 (ρ : zRh) : zRf ρ 205 5 = some 209 := rfl
theorem zR_205_6 (ρ : zRh) : zRf ρ 205 6 = some 210 := rfl
theorem zR_205_7 (ρ : zRh) : zRf ρ 205 7 = some 211 := rfl
theorem zR_215_0 (ρ : zRh) : zRf ρ 215 0 = some 216 := rfl
theorem zR_215_9 (ρ : zRh) : zRf ρ 215 9 = some 217 := rfl
theorem zR_215_11 (ρ : zRh) : zRf ρ 215 11 = some 218 := rfl
theorem zR_215_12 (ρ : zRh) : zRf ρ 215 12 = some 219 := rfl
theorem zR_215_13 (ρ : zRh) : zRf ρ 215 13 = some 220 := rfl
theorem zR_215_14 (ρ : zRh) : zRf ρ 215 14 = some 221 := rfl
theorem zR_215_15 (ρ : zRh) : zRf ρ 215 15 = some 222 := rfl
theorem zR_215_16 (ρ : zRh) : zRf ρ 215 16 = some 223 := rfl
theorem zR_215_17 (ρ : zRh) : zRf ρ 215 17 = some 224 := rfl
theorem zR_215_18 (ρ : zRh) : zRf ρ 215 18 = some 225 := rfl
theorem zR_215_19 (ρ : zRh) : zRf ρ 215 19 = some 226 := rfl
theorem zR_215_20 (ρ : zRh) : zRf ρ 215 20 = some 227 := rfl
theorem zR_215_21 (ρ : zRh) : zRf ρ 215 21 = some 228 := rfl
theorem zR_215_22 (ρ : zRh) : zRf ρ 215 22 = some 229 := rfl
theorem zR_215_23 (ρ : zRh) : zRf ρ 215 23 = some 230 := rfl
theorem zR_215_24 (ρ : zRh) : zRf ρ 215 24 = some 231 := rfl
theorem zR_215_25 (ρ : zRh) : zRf ρ 215 25 = some 232 := rfl
theorem zR_215_26 (ρ : zRh) : zRf ρ 215 26 = some 233 := rfl
theorem zR_215_27 (ρ : zRh) : zRf ρ 215 27 = some 234 := rfl
theorem zR_215_28 (ρ : zRh) : zRf ρ 215 28 = some 235 := rfl
theorem zR_215_29 (ρ : zRh) : zRf ρ 215 29 = some 236 := rfl
theorem zR_215_30 (ρ : zRh) : zRf ρ 215 30 = some 237 := rfl
theorem zR_215_31 (ρ : zRh) : zRf ρ 215 31 = some 238 := rfl
theorem zR_215_32 (ρ : zRh) : zRf ρ 215 32 = some 239 := rfl
theorem zR_215_33 (ρ : zRh) : zRf ρ 215 33 = some 240 := rfl
theorem zR_215_34 (ρ : zRh) : zRf ρ 215 34 = some 241 := rfl
theorem zR_215_35 (ρ : zRh) : zRf ρ 215 35 = some 242 := rfl
theorem zR_215_36 (ρ : zRh) : zRf ρ 215 36 = some 243 := rfl
theorem zR_215_37 (ρ : zRh) : zRf ρ 215 37 = some 244 := rfl
theorem zR_215_38 (ρ : zRh) : zRf ρ 215 38 = some 245 := rfl
theorem zR_215_40 (ρ : zRh) : zRf ρ 215 40 = some 246 := rfl
theorem zR_215_41 (ρ : zRh) : zRf ρ 215 41 = some 247 := rfl
theorem zR_215_42 (ρ : zRh) : zRf ρ 215 42 = some 248 := rfl
theorem zR_215_43 (ρ : zRh) : zRf ρ 215 43 = some 249 := rfl
theorem zR_215_44 (ρ : zRh) : zRf ρ 215 44 = some 250 := rfl
theorem zR_215_45 (ρ : zRh) : zRf ρ 215 45 = some 251 := rfl
theorem zR_215_46 (ρ : zRh) : zRf ρ 215 46 = some 252 := rfl
theorem zR_215_47 (ρ : zRh) : zRf ρ 215 47 = some 253 := rfl
theorem zR_215_48 (ρ : zRh) : zRf ρ 215 48 = some 254 := rfl
theorem zR_215_52 (ρ : zRh) : zRf ρ 215 52 = some 255 := rfl
theorem zR_215_61 (ρ : zRh) : zRf ρ 215 61 = some 256 := rfl
theorem zR_215_62 (ρ : zRh) : zRf ρ 215 62 = some 257 := rfl
theorem zR_215_65 (ρ : zRh) : zRf ρ 215 65 = some 258 := rfl
theorem zR_215_66 (ρ : zRh) : zRf ρ 215 66 = some 259 := rfl
theorem zR_215_67 (ρ : zRh) : zRf ρ 215 67 = some 260 := rfl
theorem zR_215_68 (ρ : zRh) : zRf ρ 215 68 = some 261 := rfl
theorem zR_215_69 (ρ : zRh) : zRf ρ 215 69 = some 262 := rfl
theorem zR_215_70 (ρ : zRh) : zRf ρ 215 70 = some 263 := rfl
theorem zR_215_72 (ρ : zRh) : zRf ρ 215 72 = some 264 := rfl
theorem zR_215_73 (ρ : zRh) : zRf ρ 215 73 = some 265 := rfl
theorem zR_215_74 (ρ : zRh) : zRf ρ 215 74 = some 266 := rfl
theorem zR_215_78 (ρ : zRh) : zRf ρ 215 78 = some 267 := rfl
theorem zR_215_79 (ρ : zRh) : zRf ρ 215 79 = some 268 := rfl
theorem zR_215_80 (ρ : zRh) : zRf ρ 215 80 = some 269 := rfl
theorem zR_215_81 (ρ : zRh) : zRf ρ 215 81 = some 270 := rfl
theorem zR_215_82 (ρ : zRh) : zRf ρ 215 82 = some 271 := rfl
theorem zR_215_83 (ρ : zRh) : zRf ρ 215 83 = some 272 := rfl
theorem zR_215_84 (ρ : zRh) : zRf ρ 215 84 = some 273 := rfl
theorem zR_215_85 (ρ : zRh) : zRf ρ 215 85 = some 274 := rfl
theorem zR_215_86 (ρ : zRh) : zRf ρ 215 86 = some 275 := rfl
theorem zR_215_87 (ρ : zRh) : zRf ρ 215 87 = some 276 := rfl
theorem zR_215_88 (ρ : zRh) : zRf ρ 215 88 = some 277 := rfl
theorem zR_215_89 (ρ : zRh) : zRf ρ 215 89 = some 278 := rfl
theorem zR_215_90 (ρ : zRh) : zRf ρ 215 90 = some 279 := rfl
theorem zR_215_91 (ρ : zRh) : zRf ρ 215 91 = some 280 := rfl
theorem zR_215_92 (ρ : zRh) : zRf ρ 215 92 = some 281 := rfl
theorem zR_215_93 (ρ : zRh) : zRf ρ 215 93 = some 282 := rfl
theorem zR_215_94 (ρ : zRh) : zRf ρ 215 94 = some 283 := rfl
theorem zR_215_95 (ρ : zRh) : zRf ρ 215 95 = some 284 := rfl
theorem zR_215_96 (ρ : zRh) : zRf ρ 215 96 = some 285 := rfl
theorem zR_215_97 (ρ : zRh) : zRf ρ 215 97 = some 286 := rfl
theorem zR_215_98 (ρ : zRh) : zRf ρ 215 98 = some 287 := rfl
theorem zR_215_99 (ρ : zRh) : zRf ρ 215 99 = some 288 := rfl
theorem zR_215_100 (ρ : zRh) : zRf ρ 215 100 = some 289 := rfl
theorem zR_215_101 (ρ : zRh) : zRf ρ 215 101 = some 290 := rfl
theorem zR_215_102 (ρ : zRh) : zRf ρ 215 102 = some 291 := rfl
theorem zR_215_103 (ρ : zRh) : zRf ρ 215 103 = some 292 := rfl
theorem zR_215_104 (ρ : zRh) : zRf ρ 215 104 = some 293 := rfl
theorem zR_215_106 (ρ : zRh) : zRf ρ 215 106 = some 294 := rfl
theorem zR_215_110 (ρ : zRh) : zRf ρ 215 110 = some 295 := rfl
theorem zR_215_114 (ρ : zRh) : zRf ρ 215 114 = some 296 := rfl
section ZB1
variable {I : Nat → Nat → Int32} {L : Nat → Nat → Int64} {ρ : zRh} {c k a b t n : Nat} {f g : zM}
theorem u2_ap {α : Type} (f : Nat → Nat → α) (a j : Nat) (x : α) (b i : Nat) : u2 f a j x b i = if b = a ∧ i = j then x else f b i := rfl
theorem h_ret (v : Option Value) (h : zH) : z_ret v h = some (v, h) := rfl
theorem h_rb0 (h : zH) : z_rb 0 h = some (some (.int 0), h) := rfl
theorem h_rb1 (h : zH) : z_rb 1 h = some (some (.int 1), h) := rfl
theorem h_rb {x : Int32} (h1 : x = 0 ∨ x = 1) (h : zH) : z_rb x h = some (some (.int x), h) := if_pos h1
theorem h_if (q : Prop) [Decidable q] (f g : zM) (h : zH) : z_if q f g h = if q then f h else g h := rfl
theorem h_ck {q : Prop} [Decidable q] (h1 : q) (f : zM) (h : zH) : z_ck q f h = f h := if_pos h1
theorem h_gi {F : Int32 → zM} (h1 : a < 297) (h2 : (zK a).1 = c) : z_gi c k a F (hp I L ρ) = F (I a k) (hp I L ρ) := if_pos ⟨h1, h2⟩
theorem h_gl {F : Int64 → zM} (h1 : a < 297) (h2 : (zK a).1 = c) : z_gl c k a F (hp I L ρ) = F (L a k) (hp I L ρ) := if_pos ⟨h1, h2⟩
theorem h_gr {F : Nat → zM} (h1 : a < 297) (h2 : (zK a).1 = c) (h3 : zRf ρ a k = some b) : z_gr c k a F (hp I L ρ) = F b (hp I L ρ) := by
  show (if _ then _ else _) = _
  rw [if_pos ⟨h1, h2⟩]
  show (match zRf ρ a k with | some b => F b (hp I L ρ) | none => none) = _
  rw [h3]
theorem h_gr2 {F : Nat → zM} (h1 : a < 297) (h2 : (zK a).1 = c) : z_gr c k a F (hp I L ρ) = (match zRf ρ a k with | some b => F b (hp I L ρ) | none => none) := if_pos ⟨h1, h2⟩
theorem h_pi {x : Int32} (h1 : a < 297) (h2 : (zK a).1 = c) : z_pi c k a x f (hp I L ρ) = f (hp (u2 I a k x) L ρ) := if_pos ⟨h1, h2⟩
theorem h_pb {x : Int32} (h1 : a < 297) (h2 : (zK a).1 = c) (h3 : x = 0 ∨ x = 1) : z_pb c k a x f (hp I L ρ) = f (hp (u2 I a k x) L ρ) := if_pos ⟨⟨h1, h2⟩, h3⟩
theorem h_pl {x : Int64} (h1 : a < 297) (h2 : (zK a).1 = c) : z_pl c k a x f (hp I L ρ) = f (hp I (u2 L a k x) ρ) := if_pos ⟨h1, h2⟩
theorem nI_ok {j : Nat} (hj : j < n) (hn : n < 2147483648) : 0 ≤ (nI j).toInt ∧ (nI j).toInt < (n : Int) ∧ (nI j).toNatClampNeg = j := by
  rw [nI_toInt (by omega), nI_clamp (by omega)]
  omega
theorem h_la {F : Int32 → zM} {j : Nat} (h1 : a < 297) (h2 : (zK a).1 = t) (h3 : j < (zK a).2) (h4 : (zK a).2 < 2147483648) : z_la t a (nI j) F (hp I L ρ) = F (I a j) (hp I L ρ) := by
  have hn := nI_ok h3 h4
  show (if _ then F (I a (nI j).toNatClampNeg) _ else _) = _
  rw [if_pos ⟨⟨h1, h2⟩, hn.1, hn.2.1⟩, hn.2.2]
theorem h_sa {j : Nat} {x : Int32} (h1 : a < 297) (h2 : (zK a).1 = t) (h3 : j < (zK a).2) (h4 : (zK a).2 < 2147483648) : z_sa t a (nI j) x f (hp I L ρ) = f (hp (u2 I a j x) L ρ) := by
  have hn := nI_ok h3 h4
  show (if _ then f (hp (u2 I a (nI j).toNatClampNeg x) L ρ) else _) = _
  rw [if_pos ⟨⟨h1, h2⟩, hn.1, hn.2.1⟩, hn.2.2]
theorem h_ll {F : Int64 → zM} {j : Nat} (h1 : a < 297) (h2 : (zK a).1 = 23) (h3 : j < (zK a).2) (h4 : (zK a).2 < 2147483648) : z_ll a (nI j) F (hp I L ρ) = F (L a j) (hp I L ρ) := by
  have hn := nI_ok h3 h4
  show (if _ then F (L a (nI j).toNatClampNeg) _ else _) = _
  rw [if_pos ⟨⟨h1, h2⟩, hn.1, hn.2.1⟩, hn.2.2]
theorem h_sl {j : Nat} {x : Int64} (h1 : a < 297) (h2 : (zK a).1 = 23) (h3 : j < (zK a).2) (h4 : (zK a).2 < 2147483648) : z_sl a (nI j) x f (hp I L ρ) = f (hp I (u2 L a j x) ρ) := by
  have hn := nI_ok h3 h4
  show (if _ then f (hp I (u2 L a (nI j).toNatClampNeg x) ρ) else _) = _
  rw [if_pos ⟨⟨h1, h2⟩, hn.1, hn.2.1⟩, hn.2.2]
theorem h_len {F : Int32 → zM} (h1 : a < 297) (h2 : 20 ≤ (zK a).1) (h3 : (zK a).1 < 25) : z_len a F (hp I L ρ) = F (nI (zK a).2) (hp I L ρ) := if_pos ⟨h1, h2, h3⟩
theorem h_rc (h1 : a < 297) (h2 : (zK a).1 = c) : z_rc c a f (hp I L ρ) = f (hp I L ρ) := if_pos ⟨h1, h2⟩
theorem h_cv {h h1 : zH} (e : g h = some (none, h1)) : z_cv g f h = f h1 := by unfold z_cv; rw [e]
theorem h_ci {F : Int32 → zM} {x : Int32} {h h1 : zH} (e : g h = some (some (.int x), h1)) : z_ci g F h = F x h1 := by unfold z_ci; rw [e]
theorem h_cl {F : Int64 → zM} {x : Int64} {h h1 : zH} (e : g h = some (some (.long x), h1)) : z_cl g F h = F x h1 := by unfold z_cl; rw [e]
theorem h_cr {F : Nat → zM} {x : Nat} {h h1 : zH} (e : g h = some (some (.ref x), h1)) : z_cr g F h = F x h1 := by unfold z_cr; rw [e]
theorem h_fix {α : Type} (body : (α → zM) → α → zM) (n : Nat) (x : α) : z_fix body (n + 1) x = body (z_fix body n) x := rfl
end ZB1
section ZB2
variable {I : Nat → Nat → Int32} {L : Nat → Nat → Int64} {ρ : zRh} {k j n : Nat} {f : zM}
theorem gi_0 {F : Int32 → zM} : z_gi 11 k 0 F (hp I L ρ) = F (I 0 k) (hp I L ρ) := h_gi (by decide) rfl
theorem pi_0 {x : Int32} : z_pi 11 k 0 x f (hp I L ρ) = f (hp (u2 I 0 k x) L ρ) := h_pi (by decide) rfl
theorem rc_0 : z_rc 11 0 f (hp I L ρ) = f (hp I L ρ) := h_rc (by decide) rfl
theorem gl_0 {F : Int64 → zM} : z_gl 11 k 0 F (hp I L ρ) = F (L 0 k) (hp I L ρ) := h_gl (by decide) rfl
theorem pl_0 {x : Int64} : z_pl 11 k 0 x f (hp I L ρ) = f (hp I (u2 L 0 k x) ρ) := h_pl (by decide) rfl
theorem gr_0_0 {F : Nat → zM} : z_gr 11 0 0 F (hp I L ρ) = F (1) (hp I L ρ) := h_gr (by decide) rfl rfl
theorem gr_0_2 {F : Nat → zM} : z_gr 11 2 0 F (hp I L ρ) = F (2) (hp I L ρ) := h_gr (by decide) rfl rfl
theorem gr_0_3 {F : Nat → zM} : z_gr 11 3 0 F (hp I L ρ) = F (3) (hp I L ρ) := h_gr (by decide) rfl rfl
theorem gr_0_4 {F : Nat → zM} : z_gr 11 4 0 F (hp I L ρ) = F (11) (hp I L ρ) := h_gr (by decide) rfl rfl
theorem gr_0_5 {F : Nat → zM} : z_gr 11 5 0 F (hp I L ρ) = F (ρ.1) (hp I L ρ) := h_gr (by decide) rfl rfl
theorem gr_0_6 {F : Nat → zM} : z_gr 11 6 0 F (hp I L ρ) = F (ρ.2.1) (hp I L ρ) := h_gr (by decide) rfl rfl
theorem gr_0_7 {F : Nat → zM} : z_gr 11 7 0 F (hp I L ρ) = F (41) (hp I L ρ) := h_gr (by decide) rfl rfl
theorem gr_0_8 {F : Nat → zM} : z_gr 11 8 0 F (hp I L ρ) = F (48) (hp I L ρ) := h_gr (by decide) rfl rfl
theorem gr_0_9 {F : Nat → zM} : z_gr 11 9 0 F (hp I L ρ) = F (53) (hp I L ρ) := h_gr (by decide) rfl rfl
theorem gr_0_10 {F : Nat → zM} : z_gr 11 10 0 F (hp I L ρ) = F (63) (hp I L ρ) := h_gr (by decide) rfl rfl
theorem gr_0_11 {F : Nat → zM} : z_gr 11 11 0 F (hp I L ρ) = F (68) (hp I L ρ) := h_gr (by decide) rfl rfl
theorem gr_0_12 {F : Nat → zM} : z_gr 11 12 0 F (hp I L ρ) = F (212) (hp I L ρ) := h_gr (by decide) rfl rfl
theorem gr_0_14 {F : Nat → zM} : z_gr 11 14 0 F (hp I L ρ) = F (213) (hp I L ρ) := h_gr (by decide) rfl rfl
theorem gr_0_16 {F : Nat → zM} : z_gr 11 16 0 F (hp I L ρ) = F (214) (hp I L ρ) := h_gr (by decide) rfl rfl
theorem la_1 {F : Int32 → zM} (h : j < 1600) : z_la 20 1 (nI j) F (hp I L ρ) = F (I 1 j) (hp I L ρ) := h_la (by decide) rfl h (Nat.le_of_ble_eq_true rfl)
theorem sa_1 {x : Int32} (h : j < 1600) : z_sa 20 1 (nI j) x f (hp I L ρ) = f (hp (u2 I 1 j x) L ρ) := h_sa (by decide) rfl h (Nat.le_of_ble_eq_true rfl)
theorem len_1 {F : Int32 → zM} : z_len 1 F (hp I L ρ) = F (nI 1600) (hp I L ρ) := h_len (by decide) (by decide) (by decide)
theorem gi_2 {F : Int32 → zM} : z_gi 9 k 2 F (hp I L ρ) = F (I 2 k) (hp I L ρ) := h_gi (by decide) rfl
theorem pi_2 {x : Int32} : z_pi 9 k 2 x f (hp I L ρ) = f (hp (u2 I 2 k x) L ρ) := h_pi (by decide) rfl
theorem rc_2 : z_rc 9 2 f (hp I L ρ) = f (hp I L ρ) := h_rc (by decide) rfl
theorem gr_2_0 {F : Nat → zM} : z_gr 9 0 2 F (hp I L ρ) = F (1) (hp I L ρ) := h_gr (by decide) rfl rfl
theorem gi_3 {F : Int32 → zM} : z_gi 7 k 3 F (hp I L ρ) = F (I 3 k) (hp I L ρ) := h_gi (by decide) rfl
theorem pi_3 {x : Int32} : z_pi 7 k 3 x f (hp I L ρ) = f (hp (u2 I 3 k x) L ρ) := h_pi (by decide) rfl
theorem rc_3 : z_rc 7 3 f (hp I L ρ) = f (hp I L ρ) := h_rc (by decide) rfl
theorem gr_3_0 {F : Nat → zM} : z_gr 7 0 3 F (hp I L ρ) = F (2) (hp I L ρ) := h_gr (by decide) rfl rfl
theorem gr_3_1 {F : Nat → zM} : z_gr 7 1 3 F (hp I L ρ) = F (4) (hp I L ρ) := h_gr (by decide) rfl rfl
theorem gr_3_2 {F : Nat → zM} : z_gr 7 2 3 F (hp I L ρ) = F (10) (hp I L ρ) := h_gr (by decide) rfl rfl
theorem gr_3_3 {F : Nat → zM} : z_gr 7 3 3 F (hp I L ρ) = F (9) (hp I L ρ) := h_gr (by decide) rfl rfl
theorem gi_4 {F : Int32 → zM} : z_gi 3 k 4 F (hp I L ρ) = F (I 4 k) (hp I L ρ) := h_gi (by decide) rfl
theorem pi_4 {x : Int32} : z_pi 3 k 4 x f (hp I L ρ) = f (hp (u2 I 4 k x) L ρ) := h_pi (by decide) rfl
theorem rc_4 : z_rc 3 4 f (hp I L ρ) = f (hp I L ρ) := h_rc (by decide) rfl
theorem gr_4_0 {F : Nat → zM} : z_gr 3 0 4 F (hp I L ρ) = F (5) (hp I L ρ) := h_gr (by decide) rfl rfl
theorem gr_4_2 {F : Nat → zM} : z_gr 3 2 4 F (hp I L ρ) = F (6) (hp I L ρ) := h_gr (by decide) rfl rfl
theorem gr_4_3 {F : Nat → zM} : z_gr 3 3 4 F (hp I L ρ) = F (7) (hp I L ρ) := h_gr (by decide) rfl rfl
theorem gr_4_4 {F : Nat → zM} : z_gr 3 4 4 F (hp I L ρ) = F (8) (hp I L ρ) := h_gr (by decide) rfl rfl
theorem la_5 {F : Int32 → zM} (h : j < 1616) : z_la 20 5 (nI j) F (hp I L ρ) = F (I 5 j) (hp I L ρ) := h_la (by decide) rfl h (Nat.le_of_ble_eq_true rfl)
theorem sa_5 {x : Int32} (h : j < 1616) : z_sa 20 5 (nI j) x f (hp I L ρ) = f (hp (u2 I 5 j x) L ρ) := h_sa (by decide) rfl h (Nat.le_of_ble_eq_true rfl)
theorem len_5 {F : Int32 → zM} : z_len 5 F (hp I L ρ) = F (nI 1616) (hp I L ρ) := h_len (by decide) (by decide) (by decide)
theorem la_6 {F : Int32 → zM} (h : j < 3) : z_la 20 6 (nI j) F (hp I L ρ) = F (I 6 j) (hp I L ρ) := h_la (by decide) rfl h (Nat.le_of_ble_eq_true rfl)
theorem sa_6 {x : Int32} (h : j < 3) : z_sa 20 6 (nI j) x f (hp I L ρ) = f (hp (u2 I 6 j x) L ρ) := h_sa (by decide) rfl h (Nat.le_of_ble_eq_true rfl)
theorem len_6 {F : Int32 → zM} : z_len 6 F (hp I L ρ) = F (nI 3) (hp I L ρ) := h_len (by decide) (by decide) (by decide)
theorem la_7 {F : Int32 → zM} (h : j < 3) : z_la 20 7 (nI j) F (hp I L ρ) = F (I 7 j) (hp I L ρ) := h_la (by decide) rfl h (Nat.le_of_ble_eq_true rfl)
theorem sa_7 {x : Int32} (h : j < 3) : z_sa 20 7 (nI j) x f (hp I L ρ) = f (hp (u2 I 7 j x) L ρ) := h_sa (by decide) rfl h (Nat.le_of_ble_eq_true rfl)
theorem len_7 {F : Int32 → zM} : z_len 7 F (hp I L ρ) = F (nI 3) (hp I L ρ) := h_len (by decide) (by decide) (by decide)
theorem la_8 {F : Int32 → zM} (h : j < 64) : z_la 20 8 (nI j) F (hp I L ρ) = F (I 8 j) (hp I L ρ) := h_la (by decide) rfl h (Nat.le_of_ble_eq_true rfl)
theorem sa_8 {x : Int32} (h : j < 64) : z_sa 20 8 (nI j) x f (hp I L ρ) = f (hp (u2 I 8 j x) L ρ) := h_sa (by decide) rfl h (Nat.le_of_ble_eq_true rfl)
theorem len_8 {F : Int32 → zM} : z_len 8 F (hp I L ρ) = F (nI 64) (hp I L ρ) := h_len (by decide) (by decide) (by decide)
theorem la_9 {F : Int32 → zM} (h : j < 33) : z_la 20 9 (nI j) F (hp I L ρ) = F (I 9 j) (hp I L ρ) := h_la (by decide) rfl h (Nat.le_of_ble_eq_true rfl)
theorem sa_9 {x : Int32} (h : j < 33) : z_sa 20 9 (nI j) x f (hp I L ρ) = f (hp (u2 I 9 j x) L ρ) := h_sa (by decide) rfl h (Nat.le_of_ble_eq_true rfl)
theorem len_9 {F : Int32 → zM} : z_len 9 F (hp I L ρ) = F (nI 33) (hp I L ρ) := h_len (by decide) (by decide) (by decide)
theorem gi_10 {F : Int32 → zM} : z_gi 4 k 10 F (hp I L ρ) = F (I 10 k) (hp I L ρ) := h_gi (by decide) rfl
theorem pi_10 {x : Int32} : z_pi 4 k 10 x f (hp I L ρ) = f (hp (u2 I 10 k x) L ρ) := h_pi (by decide) rfl
theorem rc_10 : z_rc 4 10 f (hp I L ρ) = f (hp I L ρ) := h_rc (by decide) rfl
theorem pb0_10 : z_pb 4 k 10 0 f (hp I L ρ) = f (hp (u2 I 10 k 0) L ρ) := h_pb (by decide) rfl (Or.inl rfl)
theorem pb1_10 : z_pb 4 k 10 1 f (hp I L ρ) = f (hp (u2 I 10 k 1) L ρ) := h_pb (by decide) rfl (Or.inr rfl)
theorem gr_10_0 {F : Nat → zM} : z_gr 4 0 10 F (hp I L ρ) = F (2) (hp I L ρ) := h_gr (by decide) rfl rfl
theorem gr_10_1 {F : Nat → zM} : z_gr 4 1 10 F (hp I L ρ) = F (ρ.2.2.2.1) (hp I L ρ) := h_gr (by decide) rfl rfl
theorem gr_10_2 {F : Nat → zM} : z_gr 4 2 10 F (hp I L ρ) = F (ρ.2.2.2.2) (hp I L ρ) := h_gr (by decide) rfl rfl
theorem gi_11 {F : Int32 → zM} : z_gi 2 k 11 F (hp I L ρ) = F (I 11 k) (hp I L ρ) := h_gi (by decide) rfl
theorem pi_11 {x : Int32} : z_pi 2 k 11 x f (hp I L ρ) = f (hp (u2 I 11 k x) L ρ) := h_pi (by decide) rfl
theorem rc_11 : z_rc 2 11 f (hp I L ρ) = f (hp I L ρ) := h_rc (by decide) rfl
theorem gr_11_0 {F : Nat → zM} : z_gr 2 0 11 F (hp I L ρ) = F (2) (hp I L ρ) := h_gr (by decide) rfl rfl
theorem gr_11_1 {F : Nat → zM} : z_gr 2 1 11 F (hp I L ρ) = F (10) (hp I L ρ) := h_gr (by decide) rfl rfl
theorem gr_11_2 {F : Nat → zM} : z_gr 2 2 11 F (hp I L ρ) = F (12) (hp I L ρ) := h_gr (by decide) rfl rfl
theorem la_12 {F : Int32 → zM} (h : j < 6) : z_la 20 12 (nI j) F (hp I L ρ) = F (I 12 j) (hp I L ρ) := h_la (by decide) rfl h (Nat.le_of_ble_eq_true rfl)
theorem sa_12 {x : Int32} (h : j < 6) : z_sa 20 12 (nI j) x f (hp I L ρ) = f (hp (u2 I 12 j x) L ρ) := h_sa (by decide) rfl h (Nat.le_of_ble_eq_true rfl)
theorem len_12 {F : Int32 → zM} : z_len 12 F (hp I L ρ) = F (nI 6) (hp I L ρ) := h_len (by decide) (by decide) (by decide)
theorem gi_13 {F : Int32 → zM} : z_gi 1 k 13 F (hp I L ρ) = F (I 13 k) (hp I L ρ) := h_gi (by decide) rfl
theorem pi_13 {x : Int32} : z_pi 1 k 13 x f (hp I L ρ) = f (hp (u2 I 13 k x) L ρ) := h_pi (by decide) rfl
theorem rc_13 : z_rc 1 13 f (hp I L ρ) = f (hp I L ρ) := h_rc (by decide) rfl
theorem gr_13_0 {F : Nat → zM} : z_gr 1 0 13 F (hp I L ρ) = F (14) (hp I L ρ) := h_gr (by decide) rfl rfl
theorem gr_13_1 {F : Nat → zM} : z_gr 1 1 13 F (hp I L ρ) = F (15) (hp I L ρ) := h_gr (by decide) rfl rfl
theorem gr_13_2 {F : Nat → zM} : z_gr 1 2 13 F (hp I L ρ) = F (16) (hp I L ρ) := h_gr (by decide) rfl rfl
theorem gr_13_3 {F : Nat → zM} : z_gr 1 3 13 F (hp I L ρ) = F (17) (hp I L ρ) := h_gr (by decide) rfl rfl
theorem gr_13_4 {F : Nat → zM} : z_gr 1 4 13 F (hp I L ρ) = F (18) (hp I L ρ) := h_gr (by decide) rfl rfl
theorem gr_13_5 {F : Nat → zM} : z_gr 1 5 13 F (hp I L ρ) = F (19) (hp I L ρ) := h_gr (by decide) rfl rfl
theorem gr_13_7 {F : Nat → zM} : z_gr 1 7 13 F (hp I L ρ) = F (20) (hp I L ρ) := h_gr (by decide) rfl rfl
theorem gr_13_8 {F : Nat → zM} : z_gr 1 8 13 F (hp I L ρ) = F (21) (hp I L ρ) := h_gr (by decide) rfl rfl
theorem gr_13_11 {F : Nat → zM} : z_gr 1 11 13 F (hp I L ρ) = F (22) (hp I L ρ) := h_gr (by decide) rfl rfl
theorem la_14 {F : Int32 → zM} (h : j < 2) : z_la 20 14 (nI j) F (hp I L ρ) = F (I 14 j) (hp I L ρ) := h_la (by decide) rfl h (Nat.le_of_ble_eq_true rfl)
theorem sa_14 {x : Int32} (h : j < 2) : z_sa 20 14 (nI j) x f (hp I L ρ) = f (hp (u2 I 14 j x) L ρ) := h_sa (by decide) rfl h (Nat.le_of_ble_eq_true rfl)
theorem len_14 {F : Int32 → zM} : z_len 14 F (hp I L ρ) = F (nI 2) (hp I L ρ) := h_len (by decide) (by decide) (by decide)
theorem la_15 {F : Int32 → zM} (h : j < 72) : z_la 20 15 (nI j) F (hp I L ρ) = F (I 15 j) (hp I L ρ) := h_la (by decide) rfl h (Nat.le_of_ble_eq_true rfl)
theorem sa_15 {x : Int32} (h : j < 72) : z_sa 20 15 (nI j) x f (hp I L ρ) = f (hp (u2 I 15 j x) L ρ) := h_sa (by decide) rfl h (Nat.le_of_ble_eq_true rfl)
theorem len_15 {F : Int32 → zM} : z_len 15 F (hp I L ρ) = F (nI 72) (hp I L ρ) := h_len (by decide) (by decide) (by decide)
theorem la_16 {F : Int32 → zM} (h : j < 12) : z_la 20 16 (nI j) F (hp I L ρ) = F (I 16 j) (hp I L ρ) := h_la (by decide) rfl h (Nat.le_of_ble_eq_true rfl)
theorem sa_16 {x : Int32} (h : j < 12) : z_sa 20 16 (nI j) x f (hp I L ρ) = f (hp (u2 I 16 j x) L ρ) := h_sa (by decide) rfl h (Nat.le_of_ble_eq_true rfl)
theorem len_16 {F : Int32 → zM} : z_len 16 F (hp I L ρ) = F (nI 12) (hp I L ρ) := h_len (by decide) (by decide) (by decide)
theorem la_17 {F : Int32 → zM} (h : j < 12) : z_la 20 17 (nI j) F (hp I L ρ) = F (I 17 j) (hp I L ρ) := h_la (by decide) rfl h (Nat.le_of_ble_eq_true rfl)
theorem sa_17 {x : Int32} (h : j < 12) : z_sa 20 17 (nI j) x f (hp I L ρ) = f (hp (u2 I 17 j x) L ρ) := h_sa (by decide) rfl h (Nat.le_of_ble_eq_true rfl)
theorem len_17 {F : Int32 → zM} : z_len 17 F (hp I L ρ) = F (nI 12) (hp I L ρ) := h_len (by decide) (by decide) (by decide)
theorem la_18 {F : Int32 → zM} (h : j < 12) : z_la 20 18 (nI j) F (hp I L ρ) = F (I 18 j) (hp I L ρ) := h_la (by decide) rfl h (Nat.le_of_ble_eq_true rfl)
theorem sa_18 {x : Int32} (h : j < 12) : z_sa 20 18 (nI j) x f (hp I L ρ) = f (hp (u2 I 18 j x) L ρ) := h_sa (by decide) rfl h (Nat.le_of_ble_eq_true rfl)
theorem len_18 {F : Int32 → zM} : z_len 18 F (hp I L ρ) = F (nI 12) (hp I L ρ) := h_len (by decide) (by decide) (by decide)
theorem la_19 {F : Int32 → zM} (h : j < 72) : z_la 21 19 (nI j) F (hp I L ρ) = F (I 19 j) (hp I L ρ) := h_la (by decide) rfl h (Nat.le_of_ble_eq_true rfl)
theorem sa_19 {x : Int32} (h : j < 72) : z_sa 21 19 (nI j) x f (hp I L ρ) = f (hp (u2 I 19 j x) L ρ) := h_sa (by decide) rfl h (Nat.le_of_ble_eq_true rfl)
theorem len_19 {F : Int32 → zM} : z_len 19 F (hp I L ρ) = F (nI 72) (hp I L ρ) := h_len (by decide) (by decide) (by decide)
theorem la_20 {F : Int32 → zM} (h : j < 72) : z_la 20 20 (nI j) F (hp I L ρ) = F (I 20 j) (hp I L ρ) := h_la (by decide) rfl h (Nat.le_of_ble_eq_true rfl)
theorem sa_20 {x : Int32} (h : j < 72) : z_sa 20 20 (nI j) x f (hp I L ρ) = f (hp (u2 I 20 j x) L ρ) := h_sa (by decide) rfl h (Nat.le_of_ble_eq_true rfl)
theorem len_20 {F : Int32 → zM} : z_len 20 F (hp I L ρ) = F (nI 72) (hp I L ρ) := h_len (by decide) (by decide) (by decide)
theorem la_21 {F : Int32 → zM} (h : j < 72) : z_la 20 21 (nI j) F (hp I L ρ) = F (I 21 j) (hp I L ρ) := h_la (by decide) rfl h (Nat.le_of_ble_eq_true rfl)
theorem sa_21 {x : Int32} (h : j < 72) : z_sa 20 21 (nI j) x f (hp I L ρ) = f (hp (u2 I 21 j x) L ρ) := h_sa (by decide) rfl h (Nat.le_of_ble_eq_true rfl)
theorem len_21 {F : Int32 → zM} : z_len 21 F (hp I L ρ) = F (nI 72) (hp I L ρ) := h_len (by decide) (by decide) (by decide)
theorem gi_22 {F : Int32 → zM} : z_gi 3 k 22 F (hp I L ρ) = F (I 22 k) (hp I L ρ) := h_gi (by decide) rfl
theorem pi_22 {x : Int32} : z_pi 3 k 22 x f (hp I L ρ) = f (hp (u2 I 22 k x) L ρ) := h_pi (by decide) rfl
theorem rc_22 : z_rc 3 22 f (hp I L ρ) = f (hp I L ρ) := h_rc (by decide) rfl
theorem gr_22_0 {F : Nat → zM} : z_gr 3 0 22 F (hp I L ρ) = F (23) (hp I L ρ) := h_gr (by decide) rfl rfl
theorem gr_22_2 {F : Nat → zM} : z_gr 3 2 22 F (hp I L ρ) = F (24) (hp I L ρ) := h_gr (by decide) rfl rfl
theorem gr_22_3 {F : Nat → zM} : z_gr 3 3 22 F (hp I L ρ) = F (25) (hp I L ρ) := h_gr (by decide) rfl rfl
theorem gr_22_4 {F : Nat → zM} : z_gr 3 4 22 F (hp I L ρ) = F (26) (hp I L ρ) := h_gr (by decide) rfl rfl
theorem la_23 {F : Int32 → zM} (h : j < 1616) : z_la 20 23 (nI j) F (hp I L ρ) = F (I 23 j) (hp I L ρ) := h_la (by decide) rfl h (Nat.le_of_ble_eq_true rfl)
theorem sa_23 {x : Int32} (h : j < 1616) : z_sa 20 23 (nI j) x f (hp I L ρ) = f (hp (u2 I 23 j x) L ρ) := h_sa (by decide) rfl h (Nat.le_of_ble_eq_true rfl)
theorem len_23 {F : Int32 → zM} : z_len 23 F (hp I L ρ) = F (nI 1616) (hp I L ρ) := h_len (by decide) (by decide) (by decide)
theorem la_24 {F : Int32 → zM} (h : j < 3) : z_la 20 24 (nI j) F (hp I L ρ) = F (I 24 j) (hp I L ρ) := h_la (by decide) rfl h (Nat.le_of_ble_eq_true rfl)
theorem sa_24 {x : Int32} (h : j < 3) : z_sa 20 24 (nI j) x f (hp I L ρ) = f (hp (u2 I 24 j x) L ρ) := h_sa (by decide) rfl h (Nat.le_of_ble_eq_true rfl)
theorem len_24 {F : Int32 → zM} : z_len 24 F (hp I L ρ) = F (nI 3) (hp I L ρ) := h_len (by decide) (by decide) (by decide)
theorem la_25 {F : Int32 → zM} (h : j < 3) : z_la 20 25 (nI j) F (hp I L ρ) = F (I 25 j) (hp I L ρ) := h_la (by decide) rfl h (Nat.le_of_ble_eq_true rfl)
theorem sa_25 {x : Int32} (h : j < 3) : z_sa 20 25 (nI j) x f (hp I L ρ) = f (hp (u2 I 25 j x) L ρ) := h_sa (by decide) rfl h (Nat.le_of_ble_eq_true rfl)
theorem len_25 {F : Int32 → zM} : z_len 25 F (hp I L ρ) = F (nI 3) (hp I L ρ) := h_len (by decide) (by decide) (by decide)
theorem la_26 {F : Int32 → zM} (h : j < 64) : z_la 20 26 (nI j) F (hp I L ρ) = F (I 26 j) (hp I L ρ) := h_la (by decide) rfl h (Nat.le_of_ble_eq_true rfl)
theorem sa_26 {x : Int32} (h : j < 64) : z_sa 20 26 (nI j) x f (hp I L ρ) = f (hp (u2 I 26 j x) L ρ) := h_sa (by decide) rfl h (Nat.le_of_ble_eq_true rfl)
theorem len_26 {F : Int32 → zM} : z_len 26 F (hp I L ρ) = F (nI 64) (hp I L ρ) := h_len (by decide) (by decide) (by decide)
theorem gi_27 {F : Int32 → zM} : z_gi 1 k 27 F (hp I L ρ) = F (I 27 k) (hp I L ρ) := h_gi (by decide) rfl
theorem pi_27 {x : Int32} : z_pi 1 k 27 x f (hp I L ρ) = f (hp (u2 I 27 k x) L ρ) := h_pi (by decide) rfl
theorem rc_27 : z_rc 1 27 f (hp I L ρ) = f (hp I L ρ) := h_rc (by decide) rfl
theorem gr_27_0 {F : Nat → zM} : z_gr 1 0 27 F (hp I L ρ) = F (28) (hp I L ρ) := h_gr (by decide) rfl rfl
theorem gr_27_1 {F : Nat → zM} : z_gr 1 1 27 F (hp I L ρ) = F (29) (hp I L ρ) := h_gr (by decide) rfl rfl
theorem gr_27_2 {F : Nat → zM} : z_gr 1 2 27 F (hp I L ρ) = F (30) (hp I L ρ) := h_gr (by decide) rfl rfl
theorem gr_27_3 {F : Nat → zM} : z_gr 1 3 27 F (hp I L ρ) = F (31) (hp I L ρ) := h_gr (by decide) rfl rfl
theorem gr_27_4 {F : Nat → zM} : z_gr 1 4 27 F (hp I L ρ) = F (32) (hp I L ρ) := h_gr (by decide) rfl rfl
theorem gr_27_5 {F : Nat → zM} : z_gr 1 5 27 F (hp I L ρ) = F (33) (hp I L ρ) := h_gr (by decide) rfl rfl
theorem gr_27_7 {F : Nat → zM} : z_gr 1 7 27 F (hp I L ρ) = F (34) (hp I L ρ) := h_gr (by decide) rfl rfl
theorem gr_27_8 {F : Nat → zM} : z_gr 1 8 27 F (hp I L ρ) = F (35) (hp I L ρ) := h_gr (by decide) rfl rfl
theorem gr_27_11 {F : Nat → zM} : z_gr 1 11 27 F (hp I L ρ) = F (36) (hp I L ρ) := h_gr (by decide) rfl rfl
theorem la_28 {F : Int32 → zM} (h : j < 2) : z_la 20 28 (nI j) F (hp I L ρ) = F (I 28 j) (hp I L ρ) := h_la (by decide) rfl h (Nat.le_of_ble_eq_true rfl)
theorem sa_28 {x : Int32} (h : j < 2) : z_sa 20 28 (nI j) x f (hp I L ρ) = f (hp (u2 I 28 j x) L ρ) := h_sa (by decide) rfl h (Nat.le_of_ble_eq_true rfl)
theorem len_28 {F : Int32 → zM} : z_len 28 F (hp I L ρ) = F (nI 2) (hp I L ρ) := h_len (by decide) (by decide) (by decide)
theorem la_29 {F : Int32 → zM} (h : j < 72) : z_la 20 29 (nI j) F (hp I L ρ) = F (I 29 j) (hp I L ρ) := h_la (by decide) rfl h (Nat.le_of_ble_eq_true rfl)
theorem sa_29 {x : Int32} (h : j < 72) : z_sa 20 29 (nI j) x f (hp I L ρ) = f (hp (u2 I 29 j x) L ρ) := h_sa (by decide) rfl h (Nat.le_of_ble_eq_true rfl)
theorem len_29 {F : Int32 → zM} : z_len 29 F (hp I L ρ) = F (nI 72) (hp I L ρ) := h_len (by decide) (by decide) (by decide)
theorem la_30 {F : Int32 → zM} (h : j < 12) : z_la 20 30 (nI j) F (hp I L ρ) = F (I 30 j) (hp I L ρ) := h_la (by decide) rfl h (Nat.le_of_ble_eq_true rfl)
theorem sa_30 {x : Int32} (h : j < 12) : z_sa 20 30 (nI j) x f (hp I L ρ) = f (hp (u2 I 30 j x) L ρ) := h_sa (by decide) rfl h (Nat.le_of_ble_eq_true rfl)
theorem len_30 {F : Int32 → zM} : z_len 30 F (hp I L ρ) = F (nI 12) (hp I L ρ) := h_len (by decide) (by decide) (by decide)
theorem la_31 {F : Int32 → zM} (h : j < 12) : z_la 20 31 (nI j) F (hp I L ρ) = F (I 31 j) (hp I L ρ) := h_la (by decide) rfl h (Nat.le_of_ble_eq_true rfl)
theorem sa_31 {x : Int32} (h : j < 12) : z_sa 20 31 (nI j) x f (hp I L ρ) = f (hp (u2 I 31 j x) L ρ) := h_sa (by decide) rfl h (Nat.le_of_ble_eq_true rfl)
theorem len_31 {F : Int32 → zM} : z_len 31 F (hp I L ρ) = F (nI 12) (hp I L ρ) := h_len (by decide) (by decide) (by decide)
theorem la_32 {F : Int32 → zM} (h : j < 12) : z_la 20 32 (nI j) F (hp I L ρ) = F (I 32 j) (hp I L ρ) := h_la (by decide) rfl h (Nat.le_of_ble_eq_true rfl)
theorem sa_32 {x : Int32} (h : j < 12) : z_sa 20 32 (nI j) x f (hp I L ρ) = f (hp (u2 I 32 j x) L ρ) := h_sa (by decide) rfl h (Nat.le_of_ble_eq_true rfl)
theorem len_32 {F : Int32 → zM} : z_len 32 F (hp I L ρ) = F (nI 12) (hp I L ρ) := h_len (by decide) (by decide) (by decide)
theorem la_33 {F : Int32 → zM} (h : j < 72) : z_la 21 33 (nI j) F (hp I L ρ) = F (I 33 j) (hp I L ρ) := h_la (by decide) rfl h (Nat.le_of_ble_eq_true rfl)
theorem sa_33 {x : Int32} (h : j < 72) : z_sa 21 33 (nI j) x f (hp I L ρ) = f (hp (u2 I 33 j x) L ρ) := h_sa (by decide) rfl h (Nat.le_of_ble_eq_true rfl)
theorem len_33 {F : Int32 → zM} : z_len 33 F (hp I L ρ) = F (nI 72) (hp I L ρ) := h_len (by decide) (by decide) (by decide)
theorem la_34 {F : Int32 → zM} (h : j < 72) : z_la 20 34 (nI j) F (hp I L ρ) = F (I 34 j) (hp I L ρ) := h_la (by decide) rfl h (Nat.le_of_ble_eq_true rfl)
theorem sa_34 {x : Int32} (h : j < 72) : z_sa 20 34 (nI j) x f (hp I L ρ) = f (hp (u2 I 34 j x) L ρ) := h_sa (by decide) rfl h (Nat.le_of_ble_eq_true rfl)
theorem len_34 {F : Int32 → zM} : z_len 34 F (hp I L ρ) = F (nI 72) (hp I L ρ) := h_len (by decide) (by decide) (by decide)
theorem la_35 {F : Int32 → zM} (h : j < 72) : z_la 20 35 (nI j) F (hp I L ρ) = F (I 35 j) (hp I L ρ) := h_la (by decide) rfl h (Nat.le_of_ble_eq_true rfl)
theorem sa_35 {x : Int32} (h : j < 72) : z_sa 20 35 (nI j) x f (hp I L ρ) = f (hp (u2 I 35 j x) L ρ) := h_sa (by decide) rfl h (Nat.le_of_ble_eq_true rfl)
theorem len_35 {F : Int32 → zM} : z_len 35 F (hp I L ρ) = F (nI 72) (hp I L ρ) := h_len (by decide) (by decide) (by decide)
theorem gi_36 {F : Int32 → zM} : z_gi 3 k 36 F (hp I L ρ) = F (I 36 k) (hp I L ρ) := h_gi (by decide) rfl
theorem pi_36 {x : Int32} : z_pi 3 k 36 x f (hp I L ρ) = f (hp (u2 I 36 k x) L ρ) := h_pi (by decide) rfl
theorem rc_36 : z_rc 3 36 f (hp I L ρ) = f (hp I L ρ) := h_rc (by decide) rfl
theorem gr_36_0 {F : Nat → zM} : z_gr 3 0 36 F (hp I L ρ) = F (37) (hp I L ρ) := h_gr (by decide) rfl rfl
theorem gr_36_2 {F : Nat → zM} : z_gr 3 2 36 F (hp I L ρ) = F (38) (hp I L ρ) := h_gr (by decide) rfl rfl
theorem gr_36_3 {F : Nat → zM} : z_gr 3 3 36 F (hp I L ρ) = F (39) (hp I L ρ) := h_gr (by decide) rfl rfl
theorem gr_36_4 {F : Nat → zM} : z_gr 3 4 36 F (hp I L ρ) = F (40) (hp I L ρ) := h_gr (by decide) rfl rfl
theorem la_37 {F : Int32 → zM} (h : j < 1616) : z_la 20 37 (nI j) F (hp I L ρ) = F (I 37 j) (hp I L ρ) := h_la (by decide) rfl h (Nat.le_of_ble_eq_true rfl)
theorem sa_37 {x : Int32} (h : j < 1616) : z_sa 20 37 (nI j) x f (hp I L ρ) = f (hp (u2 I 37 j x) L ρ) := h_sa (by decide) rfl h (Nat.le_of_ble_eq_true rfl)
theorem len_37 {F : Int32 → zM} : z_len 37 F (hp I L ρ) = F (nI 1616) (hp I L ρ) := h_len (by decide) (by decide) (by decide)
theorem la_38 {F : Int32 → zM} (h : j < 3) : z_la 20 38 (nI j) F (hp I L ρ) = F (I 38 j) (hp I L ρ) := h_la (by decide) rfl h (Nat.le_of_ble_eq_true rfl)
theorem sa_38 {x : Int32} (h : j < 3) : z_sa 20 38 (nI j) x f (hp I L ρ) = f (hp (u2 I 38 j x) L ρ) := h_sa (by decide) rfl h (Nat.le_of_ble_eq_true rfl)
theorem len_38 {F : Int32 → zM} : z_len 38 F (hp I L ρ) = F (nI 3) (hp I L ρ) := h_len (by decide) (by decide) (by decide)
theorem la_39 {F : Int32 → zM} (h : j < 3) : z_la 20 39 (nI j) F (hp I L ρ) = F (I 39 j) (hp I L ρ) := h_la (by decide) rfl h (Nat.le_of_ble_eq_true rfl)
theorem sa_39 {x : Int32} (h : j < 3) : z_sa 20 39 (nI j) x f (hp I L ρ) = f (hp (u2 I 39 j x) L ρ) := h_sa (by decide) rfl h (Nat.le_of_ble_eq_true rfl)
theorem len_39 {F : Int32 → zM} : z_len 39 F (hp I L ρ) = F (nI 3) (hp I L ρ) := h_len (by decide) (by decide) (by decide)
theorem la_40 {F : Int32 → zM} (h : j < 64) : z_la 20 40 (nI j) F (hp I L ρ) = F (I 40 j) (hp I L ρ) := h_la (by decide) rfl h (Nat.le_of_ble_eq_true rfl)
theorem sa_40 {x : Int32} (h : j < 64) : z_sa 20 40 (nI j) x f (hp I L ρ) = f (hp (u2 I 40 j x) L ρ) := h_sa (by decide) rfl h (Nat.le_of_ble_eq_true rfl)
theorem len_40 {F : Int32 → zM} : z_len 40 F (hp I L ρ) = F (nI 64) (hp I L ρ) := h_len (by decide) (by decide) (by decide)
theorem gi_41 {F : Int32 → zM} : z_gi 8 k 41 F (hp I L ρ) = F (I 41 k) (hp I L ρ) := h_gi (by decide) rfl
theorem pi_41 {x : Int32} : z_pi 8 k 41 x f (hp I L ρ) = f (hp (u2 I 41 k x) L ρ) := h_pi (by decide) rfl
theorem rc_41 : z_rc 8 41 f (hp I L ρ) = f (hp I L ρ) := h_rc (by decide) rfl
theorem gr_41_2 {F : Nat → zM} : z_gr 8 2 41 F (hp I L ρ) = F (42) (hp I L ρ) := h_gr (by decide) rfl rfl
theorem gr_41_3 {F : Nat → zM} : z_gr 8 3 41 F (hp I L ρ) = F (43) (hp I L ρ) := h_gr (by decide) rfl rfl
theorem gr_41_4 {F : Nat → zM} : z_gr 8 4 41 F (hp I L ρ) = F (44) (hp I L ρ) := h_gr (by decide) rfl rfl
theorem gr_41_5 {F : Nat → zM} : z_gr 8 5 41 F (hp I L ρ) = F (45) (hp I L ρ) := h_gr (by decide) rfl rfl
theorem gr_41_6 {F : Nat → zM} : z_gr 8 6 41 F (hp I L ρ) = F (46) (hp I L ρ) := h_gr (by decide) rfl rfl
theorem gr_41_7 {F : Nat → zM} : z_gr 8 7 41 F (hp I L ρ) = F (47) (hp I L ρ) := h_gr (by decide) rfl rfl
theorem la_42 {F : Int32 → zM} (h : j < 12) : z_la 20 42 (nI j) F (hp I L ρ) = F (I 42 j) (hp I L ρ) := h_la (by decide) rfl h (Nat.le_of_ble_eq_true rfl)
theorem sa_42 {x : Int32} (h : j < 12) : z_sa 20 42 (nI j) x f (hp I L ρ) = f (hp (u2 I 42 j x) L ρ) := h_sa (by decide) rfl h (Nat.le_of_ble_eq_true rfl)
theorem len_42 {F : Int32 → zM} : z_len 42 F (hp I L ρ) = F (nI 12) (hp I L ρ) := h_len (by decide) (by decide) (by decide)
theorem la_43 {F : Int32 → zM} (h : j < 12) : z_la 20 43 (nI j) F (hp I L ρ) = F (I 43 j) (hp I L ρ) := h_la (by decide) rfl h (Nat.le_of_ble_eq_true rfl)
theorem sa_43 {x : Int32} (h : j < 12) : z_sa 20 43 (nI j) x f (hp I L ρ) = f (hp (u2 I 43 j x) L ρ) := h_sa (by decide) rfl h (Nat.le_of_ble_eq_true rfl)
theorem len_43 {F : Int32 → zM} : z_len 43 F (hp I L ρ) = F (nI 12) (hp I L ρ) := h_len (by decide) (by decide) (by decide)
theorem la_44 {F : Int32 → zM} (h : j < 12) : z_la 20 44 (nI j) F (hp I L ρ) = F (I 44 j) (hp I L ρ) := h_la (by decide) rfl h (Nat.le_of_ble_eq_true rfl)
theorem sa_44 {x : Int32} (h : j < 12) : z_sa 20 44 (nI j) x f (hp I L ρ) = f (hp (u2 I 44 j x) L ρ) := h_sa (by decide) rfl h (Nat.le_of_ble_eq_true rfl)
theorem len_44 {F : Int32 → zM} : z_len 44 F (hp I L ρ) = F (nI 12) (hp I L ρ) := h_len (by decide) (by decide) (by decide)
theorem la_45 {F : Int32 → zM} (h : j < 12) : z_la 20 45 (nI j) F (hp I L ρ) = F (I 45 j) (hp I L ρ) := h_la (by decide) rfl h (Nat.le_of_ble_eq_true rfl)
theorem sa_45 {x : Int32} (h : j < 12) : z_sa 20 45 (nI j) x f (hp I L ρ) = f (hp (u2 I 45 j x) L ρ) := h_sa (by decide) rfl h (Nat.le_of_ble_eq_true rfl)
theorem len_45 {F : Int32 → zM} : z_len 45 F (hp I L ρ) = F (nI 12) (hp I L ρ) := h_len (by decide) (by decide) (by decide)
theorem la_46 {F : Int32 → zM} (h : j < 72) : z_la 20 46 (nI j) F (hp I L ρ) = F (I 46 j) (hp I L ρ) := h_la (by decide) rfl h (Nat.le_of_ble_eq_true rfl)
theorem sa_46 {x : Int32} (h : j < 72) : z_sa 20 46 (nI j) x f (hp I L ρ) = f (hp (u2 I 46 j x) L ρ) := h_sa (by decide) rfl h (Nat.le_of_ble_eq_true rfl)
theorem len_46 {F : Int32 → zM} : z_len 46 F (hp I L ρ) = F (nI 72) (hp I L ρ) := h_len (by decide) (by decide) (by decide)
theorem la_47 {F : Int32 → zM} (h : j < 72) : z_la 20 47 (nI j) F (hp I L ρ) = F (I 47 j) (hp I L ρ) := h_la (by decide) rfl h (Nat.le_of_ble_eq_true rfl)
theorem sa_47 {x : Int32} (h : j < 72) : z_sa 20 47 (nI j) x f (hp I L ρ) = f (hp (u2 I 47 j x) L ρ) := h_sa (by decide) rfl h (Nat.le_of_ble_eq_true rfl)
theorem len_47 {F : Int32 → zM} : z_len 47 F (hp I L ρ) = F (nI 72) (hp I L ρ) := h_len (by decide) (by decide) (by decide)
theorem gi_48 {F : Int32 → zM} : z_gi 10 k 48 F (hp I L ρ) = F (I 48 k) (hp I L ρ) := h_gi (by decide) rfl
theorem pi_48 {x : Int32} : z_pi 10 k 48 x f (hp I L ρ) = f (hp (u2 I 48 k x) L ρ) := h_pi (by decide) rfl
theorem rc_48 : z_rc 10 48 f (hp I L ρ) = f (hp I L ρ) := h_rc (by decide) rfl
theorem gr_48_0 {F : Nat → zM} : z_gr 10 0 48 F (hp I L ρ) = F (ρ.2.2.1) (hp I L ρ) := h_gr (by decide) rfl rfl
theorem gr_48_1 {F : Nat → zM} : z_gr 10 1 48 F (hp I L ρ) = F (49) (hp I L ρ) := h_gr (by decide) rfl rfl
theorem gr_48_2 {F : Nat → zM} : z_gr 10 2 48 F (hp I L ρ) = F (50) (hp I L ρ) := h_gr (by decide) rfl rfl
theorem gr_48_3 {F : Nat → zM} : z_gr 10 3 48 F (hp I L ρ) = F (51) (hp I L ρ) := h_gr (by decide) rfl rfl
theorem gr_48_4 {F : Nat → zM} : z_gr 10 4 48 F (hp I L ρ) = F (52) (hp I L ρ) := h_gr (by decide) rfl rfl
theorem la_49 {F : Int32 → zM} (h : j < 12) : z_la 20 49 (nI j) F (hp I L ρ) = F (I 49 j) (hp I L ρ) := h_la (by decide) rfl h (Nat.le_of_ble_eq_true rfl)
theorem sa_49 {x : Int32} (h : j < 12) : z_sa 20 49 (nI j) x f (hp I L ρ) = f (hp (u2 I 49 j x) L ρ) := h_sa (by decide) rfl h (Nat.le_of_ble_eq_true rfl)
theorem len_49 {F : Int32 → zM} : z_len 49 F (hp I L ρ) = F (nI 12) (hp I L ρ) := h_len (by decide) (by decide) (by decide)
theorem la_50 {F : Int32 → zM} (h : j < 6) : z_la 20 50 (nI j) F (hp I L ρ) = F (I 50 j) (hp I L ρ) := h_la (by decide) rfl h (Nat.le_of_ble_eq_true rfl)
theorem sa_50 {x : Int32} (h : j < 6) : z_sa 20 50 (nI j) x f (hp I L ρ) = f (hp (u2 I 50 j x) L ρ) := h_sa (by decide) rfl h (Nat.le_of_ble_eq_true rfl)
theorem len_50 {F : Int32 → zM} : z_len 50 F (hp I L ρ) = F (nI 6) (hp I L ρ) := h_len (by decide) (by decide) (by decide)
theorem la_51 {F : Int32 → zM} (h : j < 9) : z_la 20 51 (nI j) F (hp I L ρ) = F (I 51 j) (hp I L ρ) := h_la (by decide) rfl h (Nat.le_of_ble_eq_true rfl)
theorem sa_51 {x : Int32} (h : j < 9) : z_sa 20 51 (nI j) x f (hp I L ρ) = f (hp (u2 I 51 j x) L ρ) := h_sa (by decide) rfl h (Nat.le_of_ble_eq_true rfl)
theorem len_51 {F : Int32 → zM} : z_len 51 F (hp I L ρ) = F (nI 9) (hp I L ρ) := h_len (by decide) (by decide) (by decide)
theorem la_52 {F : Int32 → zM} (h : j < 12) : z_la 20 52 (nI j) F (hp I L ρ) = F (I 52 j) (hp I L ρ) := h_la (by decide) rfl h (Nat.le_of_ble_eq_true rfl)
theorem sa_52 {x : Int32} (h : j < 12) : z_sa 20 52 (nI j) x f (hp I L ρ) = f (hp (u2 I 52 j x) L ρ) := h_sa (by decide) rfl h (Nat.le_of_ble_eq_true rfl)
theorem len_52 {F : Int32 → zM} : z_len 52 F (hp I L ρ) = F (nI 12) (hp I L ρ) := h_len (by decide) (by decide) (by decide)
theorem gi_53 {F : Int32 → zM} : z_gi 0 k 53 F (hp I L ρ) = F (I 53 k) (hp I L ρ) := h_gi (by decide) rfl
theorem pi_53 {x : Int32} : z_pi 0 k 53 x f (hp I L ρ) = f (hp (u2 I 53 k x) L ρ) := h_pi (by decide) rfl
theorem rc_53 : z_rc 0 53 f (hp I L ρ) = f (hp I L ρ) := h_rc (by decide) rfl
theorem gr_53_0 {F : Nat → zM} : z_gr 0 0 53 F (hp I L ρ) = F (54) (hp I L ρ) := h_gr (by decide) rfl rfl
theorem gr_53_1 {F : Nat → zM} : z_gr 0 1 53 F (hp I L ρ) = F (61) (hp I L ρ) := h_gr (by decide) rfl rfl
theorem gr_53_2 {F : Nat → zM} : z_gr 0 2 53 F (hp I L ρ) = F (48) (hp I L ρ) := h_gr (by decide) rfl rfl
theorem gr_53_3 {F : Nat → zM} : z_gr 0 3 53 F (hp I L ρ) = F (62) (hp I L ρ) := h_gr (by decide) rfl rfl
theorem gi_54 {F : Int32 → zM} : z_gi 8 k 54 F (hp I L ρ) = F (I 54 k) (hp I L ρ) := h_gi (by decide) rfl
theorem pi_54 {x : Int32} : z_pi 8 k 54 x f (hp I L ρ) = f (hp (u2 I 54 k x) L ρ) := h_pi (by decide) rfl
theorem rc_54 : z_rc 8 54 f (hp I L ρ) = f (hp I L ρ) := h_rc (by decide) rfl
theorem gr_54_2 {F : Nat → zM} : z_gr 8 2 54 F (hp I L ρ) = F (55) (hp I L ρ) := h_gr (by decide) rfl rfl
theorem gr_54_3 {F : Nat → zM} : z_gr 8 3 54 F (hp I L ρ) = F (56) (hp I L ρ) := h_gr (by decide) rfl rfl
theorem gr_54_4 {F : Nat → zM} : z_gr 8 4 54 F (hp I L ρ) = F (57) (hp I L ρ) := h_gr (by decide) rfl rfl
theorem gr_54_5 {F : Nat → zM} : z_gr 8 5 54 F (hp I L ρ) = F (58) (hp I L ρ) := h_gr (by decide) rfl rfl
theorem gr_54_6 {F : Nat → zM} : z_gr 8 6 54 F (hp I L ρ) = F (59) (hp I L ρ) := h_gr (by decide) rfl rfl
theorem gr_54_7 {F : Nat → zM} : z_gr 8 7 54 F (hp I L ρ) = F (60) (hp I L ρ) := h_gr (by decide) rfl rfl
theorem la_55 {F : Int32 → zM} (h : j < 12) : z_la 20 55 (nI j) F (hp I L ρ) = F (I 55 j) (hp I L ρ) := h_la (by decide) rfl h (Nat.le_of_ble_eq_true rfl)
theorem sa_55 {x : Int32} (h : j < 12) : z_sa 20 55 (nI j) x f (hp I L ρ) = f (hp (u2 I 55 j x) L ρ) := h_sa (by decide) rfl h (Nat.le_of_ble_eq_true rfl)
theorem len_55 {F : Int32 → zM} : z_len 55 F (hp I L ρ) = F (nI 12) (hp I L ρ) := h_len (by decide) (by decide) (by decide)
theorem la_56 {F : Int32 → zM} (h : j < 12) : z_la 20 56 (nI j) F (hp I L ρ) = F (I 56 j) (hp I L ρ) := h_la (by decide) rfl h (Nat.le_of_ble_eq_true rfl)
theorem sa_56 {x : Int32} (h : j < 12) : z_sa 20 56 (nI j) x f (hp I L ρ) = f (hp (u2 I 56 j x) L ρ) := h_sa (by decide) rfl h (Nat.le_of_ble_eq_true rfl)
theorem len_56 {F : Int32 → zM} : z_len 56 F (hp I L ρ) = F (nI 12) (hp I L ρ) := h_len (by decide) (by decide) (by decide)
theorem la_57 {F : Int32 → zM} (h : j < 12) : z_la 20 57 (nI j) F (hp I L ρ) = F (I 57 j) (hp I L ρ) := h_la (by decide) rfl h (Nat.le_of_ble_eq_true rfl)
theorem sa_57 {x : Int32} (h : j < 12) : z_sa 20 57 (nI j) x f (hp I L ρ) = f (hp (u2 I 57 j x) L ρ) := h_sa (by decide) rfl h (Nat.le_of_ble_eq_true rfl)
theorem len_57 {F : Int32 → zM} : z_len 57 F (hp I L ρ) = F (nI 12) (hp I L ρ) := h_len (by decide) (by decide) (by decide)
theorem la_58 {F : Int32 → zM} (h : j < 12) : z_la 20 58 (nI j) F (hp I L ρ) = F (I 58 j) (hp I L ρ) := h_la (by decide) rfl h (Nat.le_of_ble_eq_true rfl)
theorem sa_58 {x : Int32} (h : j < 12) : z_sa 20 58 (nI j) x f (hp I L ρ) = f (hp (u2 I 58 j x) L ρ) := h_sa (by decide) rfl h (Nat.le_of_ble_eq_true rfl)
theorem len_58 {F : Int32 → zM} : z_len 58 F (hp I L ρ) = F (nI 12) (hp I L ρ) := h_len (by decide) (by decide) (by decide)
theorem la_59 {F : Int32 → zM} (h : j < 72) : z_la 20 59 (nI j) F (hp I L ρ) = F (I 59 j) (hp I L ρ) := h_la (by decide) rfl h (Nat.le_of_ble_eq_true rfl)
theorem sa_59 {x : Int32} (h : j < 72) : z_sa 20 59 (nI j) x f (hp I L ρ) = f (hp (u2 I 59 j x) L ρ) := h_sa (by decide) rfl h (Nat.le_of_ble_eq_true rfl)
theorem len_59 {F : Int32 → zM} : z_len 59 F (hp I L ρ) = F (nI 72) (hp I L ρ) := h_len (by decide) (by decide) (by decide)
theorem la_60 {F : Int32 → zM} (h : j < 72) : z_la 20 60 (nI j) F (hp I L ρ) = F (I 60 j) (hp I L ρ) := h_la (by decide) rfl h (Nat.le_of_ble_eq_true rfl)
theorem sa_60 {x : Int32} (h : j < 72) : z_sa 20 60 (nI j) x f (hp I L ρ) = f (hp (u2 I 60 j x) L ρ) := h_sa (by decide) rfl h (Nat.le_of_ble_eq_true rfl)
theorem len_60 {F : Int32 → zM} : z_len 60 F (hp I L ρ) = F (nI 72) (hp I L ρ) := h_len (by decide) (by decide) (by decide)
theorem la_61 {F : Int32 → zM} (h : j < 4) : z_la 20 61 (nI j) F (hp I L ρ) = F (I 61 j) (hp I L ρ) := h_la (by decide) rfl h (Nat.le_of_ble_eq_true rfl)
theorem sa_61 {x : Int32} (h : j < 4) : z_sa 20 61 (nI j) x f (hp I L ρ) = f (hp (u2 I 61 j x) L ρ) := h_sa (by decide) rfl h (Nat.le_of_ble_eq_true rfl)
theorem len_61 {F : Int32 → zM} : z_len 61 F (hp I L ρ) = F (nI 4) (hp I L ρ) := h_len (by decide) (by decide) (by decide)
theorem la_62 {F : Int32 → zM} (h : j < 310) : z_la 20 62 (nI j) F (hp I L ρ) = F (I 62 j) (hp I L ρ) := h_la (by decide) rfl h (Nat.le_of_ble_eq_true rfl)
theorem sa_62 {x : Int32} (h : j < 310) : z_sa 20 62 (nI j) x f (hp I L ρ) = f (hp (u2 I 62 j x) L ρ) := h_sa (by decide) rfl h (Nat.le_of_ble_eq_true rfl)
theorem len_62 {F : Int32 → zM} : z_len 62 F (hp I L ρ) = F (nI 310) (hp I L ρ) := h_len (by decide) (by decide) (by decide)
theorem gi_63 {F : Int32 → zM} : z_gi 5 k 63 F (hp I L ρ) = F (I 63 k) (hp I L ρ) := h_gi (by decide) rfl
theorem pi_63 {x : Int32} : z_pi 5 k 63 x f (hp I L ρ) = f (hp (u2 I 63 k x) L ρ) := h_pi (by decide) rfl
theorem rc_63 : z_rc 5 63 f (hp I L ρ) = f (hp I L ρ) := h_rc (by decide) rfl
theorem gr_63_0 {F : Nat → zM} : z_gr 5 0 63 F (hp I L ρ) = F (64) (hp I L ρ) := h_gr (by decide) rfl rfl
theorem gr_63_1 {F : Nat → zM} : z_gr 5 1 63 F (hp I L ρ) = F (65) (hp I L ρ) := h_gr (by decide) rfl rfl
theorem gr_63_2 {F : Nat → zM} : z_gr 5 2 63 F (hp I L ρ) = F (66) (hp I L ρ) := h_gr (by decide) rfl rfl
theorem gr_63_3 {F : Nat → zM} : z_gr 5 3 63 F (hp I L ρ) = F (67) (hp I L ρ) := h_gr (by decide) rfl rfl
theorem la_64 {F : Int32 → zM} (h : j < 12) : z_la 20 64 (nI j) F (hp I L ρ) = F (I 64 j) (hp I L ρ) := h_la (by decide) rfl h (Nat.le_of_ble_eq_true rfl)
theorem sa_64 {x : Int32} (h : j < 12) : z_sa 20 64 (nI j) x f (hp I L ρ) = f (hp (u2 I 64 j x) L ρ) := h_sa (by decide) rfl h (Nat.le_of_ble_eq_true rfl)
theorem len_64 {F : Int32 → zM} : z_len 64 F (hp I L ρ) = F (nI 12) (hp I L ρ) := h_len (by decide) (by decide) (by decide)
theorem la_65 {F : Int32 → zM} (h : j < 72) : z_la 20 65 (nI j) F (hp I L ρ) = F (I 65 j) (hp I L ρ) := h_la (by decide) rfl h (Nat.le_of_ble_eq_true rfl)
theorem sa_65 {x : Int32} (h : j < 72) : z_sa 20 65 (nI j) x f (hp I L ρ) = f (hp (u2 I 65 j x) L ρ) := h_sa (by decide) rfl h (Nat.le_of_ble_eq_true rfl)
theorem len_65 {F : Int32 → zM} : z_len 65 F (hp I L ρ) = F (nI 72) (hp I L ρ) := h_len (by decide) (by decide) (by decide)
theorem la_66 {F : Int32 → zM} (h : j < 448) : z_la 20 66 (nI j) F (hp I L ρ) = F (I 66 j) (hp I L ρ) := h_la (by decide) rfl h (Nat.le_of_ble_eq_true rfl)
theorem sa_66 {x : Int32} (h : j < 448) : z_sa 20 66 (nI j) x f (hp I L ρ) = f (hp (u2 I 66 j x) L ρ) := h_sa (by decide) rfl h (Nat.le_of_ble_eq_true rfl)
theorem len_66 {F : Int32 → zM} : z_len 66 F (hp I L ρ) = F (nI 448) (hp I L ρ) := h_len (by decide) (by decide) (by decide)
theorem la_67 {F : Int32 → zM} (h : j < 6) : z_la 20 67 (nI j) F (hp I L ρ) = F (I 67 j) (hp I L ρ) := h_la (by decide) rfl h (Nat.le_of_ble_eq_true rfl)
theorem sa_67 {x : Int32} (h : j < 6) : z_sa 20 67 (nI j) x f (hp I L ρ) = f (hp (u2 I 67 j x) L ρ) := h_sa (by decide) rfl h (Nat.le_of_ble_eq_true rfl)
theorem len_67 {F : Int32 → zM} : z_len 67 F (hp I L ρ) = F (nI 6) (hp I L ρ) := h_len (by decide) (by decide) (by decide)
theorem gi_68 {F : Int32 → zM} : z_gi 6 k 68 F (hp I L ρ) = F (I 68 k) (hp I L ρ) := h_gi (by decide) rfl
theorem pi_68 {x : Int32} : z_pi 6 k 68 x f (hp I L ρ) = f (hp (u2 I 68 k x) L ρ) := h_pi (by decide) rfl
theorem rc_68 : z_rc 6 68 f (hp I L ρ) = f (hp I L ρ) := h_rc (by decide) rfl
theorem gr_68_2 {F : Nat → zM} : z_gr 6 2 68 F (hp I L ρ) = F (69) (hp I L ρ) := h_gr (by decide) rfl rfl
theorem gr_68_3 {F : Nat → zM} : z_gr 6 3 68 F (hp I L ρ) = F (70) (hp I L ρ) := h_gr (by decide) rfl rfl
theorem gr_68_4 {F : Nat → zM} : z_gr 6 4 68 F (hp I L ρ) = F (71) (hp I L ρ) := h_gr (by decide) rfl rfl
theorem la_70 {F : Int32 → zM} (h : j < 20) : z_la 20 70 (nI j) F (hp I L ρ) = F (I 70 j) (hp I L ρ) := h_la (by decide) rfl h (Nat.le_of_ble_eq_true rfl)
theorem sa_70 {x : Int32} (h : j < 20) : z_sa 20 70 (nI j) x f (hp I L ρ) = f (hp (u2 I 70 j x) L ρ) := h_sa (by decide) rfl h (Nat.le_of_ble_eq_true rfl)
theorem len_70 {F : Int32 → zM} : z_len 70 F (hp I L ρ) = F (nI 20) (hp I L ρ) := h_len (by decide) (by decide) (by decide)
theorem la_71 {F : Int32 → zM} (h : j < 640) : z_la 20 71 (nI j) F (hp I L ρ) = F (I 71 j) (hp I L ρ) := h_la (by decide) rfl h (Nat.le_of_ble_eq_true rfl)
theorem sa_71 {x : Int32} (h : j < 640) : z_sa 20 71 (nI j) x f (hp I L ρ) = f (hp (u2 I 71 j x) L ρ) := h_sa (by decide) rfl h (Nat.le_of_ble_eq_true rfl)
theorem len_71 {F : Int32 → zM} : z_len 71 F (hp I L ρ) = F (nI 640) (hp I L ρ) := h_len (by decide) (by decide) (by decide)
theorem gi_72 {F : Int32 → zM} : z_gi 8 k 72 F (hp I L ρ) = F (I 72 k) (hp I L ρ) := h_gi (by decide) rfl
theorem pi_72 {x : Int32} : z_pi 8 k 72 x f (hp I L ρ) = f (hp (u2 I 72 k x) L ρ) := h_pi (by decide) rfl
theorem rc_72 : z_rc 8 72 f (hp I L ρ) = f (hp I L ρ) := h_rc (by decide) rfl
theorem gr_72_2 {F : Nat → zM} : z_gr 8 2 72 F (hp I L ρ) = F (73) (hp I L ρ) := h_gr (by decide) rfl rfl
theorem gr_72_3 {F : Nat → zM} : z_gr 8 3 72 F (hp I L ρ) = F (74) (hp I L ρ) := h_gr (by decide) rfl rfl
theorem gr_72_4 {F : Nat → zM} : z_gr 8 4 72 F (hp I L ρ) = F (75) (hp I L ρ) := h_gr (by decide) rfl rfl
theorem gr_72_5 {F : Nat → zM} : z_gr 8 5 72 F (hp I L ρ) = F (76) (hp I L ρ) := h_gr (by decide) rfl rfl
theorem gr_72_6 {F : Nat → zM} : z_gr 8 6 72 F (hp I L ρ) = F (77) (hp I L ρ) := h_gr (by decide) rfl rfl
theorem gr_72_7 {F : Nat → zM} : z_gr 8 7 72 F (hp I L ρ) = F (78) (hp I L ρ) := h_gr (by decide) rfl rfl
theorem la_73 {F : Int32 → zM} (h : j < 12) : z_la 20 73 (nI j) F (hp I L ρ) = F (I 73 j) (hp I L ρ) := h_la (by decide) rfl h (Nat.le_of_ble_eq_true rfl)
theorem sa_73 {x : Int32} (h : j < 12) : z_sa 20 73 (nI j) x f (hp I L ρ) = f (hp (u2 I 73 j x) L ρ) := h_sa (by decide) rfl h (Nat.le_of_ble_eq_true rfl)
theorem len_73 {F : Int32 → zM} : z_len 73 F (hp I L ρ) = F (nI 12) (hp I L ρ) := h_len (by decide) (by decide) (by decide)
theorem la_74 {F : Int32 → zM} (h : j < 12) : z_la 20 74 (nI j) F (hp I L ρ) = F (I 74 j) (hp I L ρ) := h_la (by decide) rfl h (Nat.le_of_ble_eq_true rfl)
theorem sa_74 {x : Int32} (h : j < 12) : z_sa 20 74 (nI j) x f (hp I L ρ) = f (hp (u2 I 74 j x) L ρ) := h_sa (by decide) rfl h (Nat.le_of_ble_eq_true rfl)
theorem len_74 {F : Int32 → zM} : z_len 74 F (hp I L ρ) = F (nI 12) (hp I L ρ) := h_len (by decide) (by decide) (by decide)
theorem la_75 {F : Int32 → zM} (h : j < 12) : z_la 20 75 (nI j) F (hp I L ρ) = F (I 75 j) (hp I L ρ) := h_la (by decide) rfl h (Nat.le_of_ble_eq_true rfl)
theorem sa_75 {x : Int32} (h : j < 12) : z_sa 20 75 (nI j) x f (hp I L ρ) = f (hp (u2 I 75 j x) L ρ) := h_sa (by decide) rfl h (Nat.le_of_ble_eq_true rfl)
theorem len_75 {F : Int32 → zM} : z_len 75 F (hp I L ρ) = F (nI 12) (hp I L ρ) := h_len (by decide) (by decide) (by decide)
theorem la_76 {F : Int32 → zM} (h : j < 12) : z_la 20 76 (nI j) F (hp I L ρ) = F (I 76 j) (hp I L ρ) := h_la (by decide) rfl h (Nat.le_of_ble_eq_true rfl)
theorem sa_76 {x : Int32} (h : j < 12) : z_sa 20 76 (nI j) x f (hp I L ρ) = f (hp (u2 I 76 j x) L ρ) := h_sa (by decide) rfl h (Nat.le_of_ble_eq_true rfl)
theorem len_76 {F : Int32 → zM} : z_len 76 F (hp I L ρ) = F (nI 12) (hp I L ρ) := h_len (by decide) (by decide) (by decide)
theorem la_77 {F : Int32 → zM} (h : j < 72) : z_la 20 77 (nI j) F (hp I L ρ) = F (I 77 j) (hp I L ρ) := h_la (by decide) rfl h (Nat.le_of_ble_eq_true rfl)
theorem sa_77 {x : Int32} (h : j < 72) : z_sa 20 77 (nI j) x f (hp I L ρ) = f (hp (u2 I 77 j x) L ρ) := h_sa (by decide) rfl h (Nat.le_of_ble_eq_true rfl)
theorem len_77 {F : Int32 → zM} : z_len 77 F (hp I L ρ) = F (nI 72) (hp I L ρ) := h_len (by decide) (by decide) (by decide)
theorem la_78 {F : Int32 → zM} (h : j < 72) : z_la 20 78 (nI j) F (hp I L ρ) = F (I 78 j) (hp I L ρ) := h_la (by decide) rfl h (Nat.le_of_ble_eq_true rfl)
theorem sa_78 {x : Int32} (h : j < 72) : z_sa 20 78 (nI j) x f (hp I L ρ) = f (hp (u2 I 78 j x) L ρ) := h_sa (by decide) rfl h (Nat.le_of_ble_eq_true rfl)
theorem len_78 {F : Int32 → zM} : z_len 78 F (hp I L ρ) = F (nI 72) (hp I L ρ) := h_len (by decide) (by decide) (by decide)
theorem gi_79 {F : Int32 → zM} : z_gi 8 k 79 F (hp I L ρ) = F (I 79 k) (hp I L ρ) := h_gi (by decide) rfl
theorem pi_79 {x : Int32} : z_pi 8 k 79 x f (hp I L ρ) = f (hp (u2 I 79 k x) L ρ) := h_pi (by decide) rfl
theorem rc_79 : z_rc 8 79 f (hp I L ρ) = f (hp I L ρ) := h_rc (by decide) rfl
theorem gr_79_2 {F : Nat → zM} : z_gr 8 2 79 F (hp I L ρ) = F (80) (hp I L ρ) := h_gr (by decide) rfl rfl
theorem gr_79_3 {F : Nat → zM} : z_gr 8 3 79 F (hp I L ρ) = F (81) (hp I L ρ) := h_gr (by decide) rfl rfl
theorem gr_79_4 {F : Nat → zM} : z_gr 8 4 79 F (hp I L ρ) = F (82) (hp I L ρ) := h_gr (by decide) rfl rfl
theorem gr_79_5 {F : Nat → zM} : z_gr 8 5 79 F (hp I L ρ) = F (83) (hp I L ρ) := h_gr (by decide) rfl rfl
theorem gr_79_6 {F : Nat → zM} : z_gr 8 6 79 F (hp I L ρ) = F (84) (hp I L ρ) := h_gr (by decide) rfl rfl
theorem gr_79_7 {F : Nat → zM} : z_gr 8 7 79 F (hp I L ρ) = F (85) (hp I L ρ) := h_gr (by decide) rfl rfl
theorem la_80 {F : Int32 → zM} (h : j < 12) : z_la 20 80 (nI j) F (hp I L ρ) = F (I 80 j) (hp I L ρ) := h_la (by decide) rfl h (Nat.le_of_ble_eq_true rfl)
theorem sa_80 {x : Int32} (h : j < 12) : z_sa 20 80 (nI j) x f (hp I L ρ) = f (hp (u2 I 80 j x) L ρ) := h_sa (by decide) rfl h (Nat.le_of_ble_eq_true rfl)
theorem len_80 {F : Int32 → zM} : z_len 80 F (hp I L ρ) = F (nI 12) (hp I L ρ) := h_len (by decide) (by decide) (by decide)
theorem la_81 {F : Int32 → zM} (h : j < 12) : z_la 20 81 (nI j) F (hp I L ρ) = F (I 81 j) (hp I L ρ) := h_la (by decide) rfl h (Nat.le_of_ble_eq_true rfl)
theorem sa_81 {x : Int32} (h : j < 12) : z_sa 20 81 (nI j) x f (hp I L ρ) = f (hp (u2 I 81 j x) L ρ) := h_sa (by decide) rfl h (Nat.le_of_ble_eq_true rfl)
theorem len_81 {F : Int32 → zM} : z_len 81 F (hp I L ρ) = F (nI 12) (hp I L ρ) := h_len (by decide) (by decide) (by decide)
theorem la_82 {F : Int32 → zM} (h : j < 12) : z_la 20 82 (nI j) F (hp I L ρ) = F (I 82 j) (hp I L ρ) := h_la (by decide) rfl h (Nat.le_of_ble_eq_true rfl)
theorem sa_82 {x : Int32} (h : j < 12) : z_sa 20 82 (nI j) x f (hp I L ρ) = f (hp (u2 I 82 j x) L ρ) := h_sa (by decide) rfl h (Nat.le_of_ble_eq_true rfl)
theorem len_82 {F : Int32 → zM} : z_len 82 F (hp I L ρ) = F (nI 12) (hp I L ρ) := h_len (by decide) (by decide) (by decide)
theorem la_83 {F : Int32 → zM} (h : j < 12) : z_la 20 83 (nI j) F (hp I L ρ) = F (I 83 j) (hp I L ρ) := h_la (by decide) rfl h (Nat.le_of_ble_eq_true rfl)
theorem sa_83 {x : Int32} (h : j < 12) : z_sa 20 83 (nI j) x f (hp I L ρ) = f (hp (u2 I 83 j x) L ρ) := h_sa (by decide) rfl h (Nat.le_of_ble_eq_true rfl)
theorem len_83 {F : Int32 → zM} : z_len 83 F (hp I L ρ) = F (nI 12) (hp I L ρ) := h_len (by decide) (by decide) (by decide)
theorem la_84 {F : Int32 → zM} (h : j < 72) : z_la 20 84 (nI j) F (hp I L ρ) = F (I 84 j) (hp I L ρ) := h_la (by decide) rfl h (Nat.le_of_ble_eq_true rfl)
theorem sa_84 {x : Int32} (h : j < 72) : z_sa 20 84 (nI j) x f (hp I L ρ) = f (hp (u2 I 84 j x) L ρ) := h_sa (by decide) rfl h (Nat.le_of_ble_eq_true rfl)
theorem len_84 {F : Int32 → zM} : z_len 84 F (hp I L ρ) = F (nI 72) (hp I L ρ) := h_len (by decide) (by decide) (by decide)
theorem la_85 {F : Int32 → zM} (h : j < 72) : z_la 20 85 (nI j) F (hp I L ρ) = F (I 85 j) (hp I L ρ) := h_la (by decide) rfl h (Nat.le_of_ble_eq_true rfl)
theorem sa_85 {x : Int32} (h : j < 72) : z_sa 20 85 (nI j) x f (hp I L ρ) = f (hp (u2 I 85 j x) L ρ) := h_sa (by decide) rfl h (Nat.le_of_ble_eq_true rfl)
theorem len_85 {F : Int32 → zM} : z_len 85 F (hp I L ρ) = F (nI 72) (hp I L ρ) := h_len (by decide) (by decide) (by decide)
theorem gi_86 {F : Int32 → zM} : z_gi 8 k 86 F (hp I L ρ) = F (I 86 k) (hp I L ρ) := h_gi (by decide) rfl
theorem pi_86 {x : Int32} : z_pi 8 k 86 x f (hp I L ρ) = f (hp (u2 I 86 k x) L ρ) := h_pi (by decide) rfl
theorem rc_86 : z_rc 8 86 f (hp I L ρ) = f (hp I L ρ) := h_rc (by decide) rfl
theorem gr_86_2 {F : Nat → zM} : z_gr 8 2 86 F (hp I L ρ) = F (87) (hp I L ρ) := h_gr (by decide) rfl rfl
theorem gr_86_3 {F : Nat → zM} : z_gr 8 3 86 F (hp I L ρ) = F (88) (hp I L ρ) := h_gr (by decide) rfl rfl
theorem gr_86_4 {F : Nat → zM} : z_gr 8 4 86 F (hp I L ρ) = F (89) (hp I L ρ) := h_gr (by decide) rfl rfl
theorem gr_86_5 {F : Nat → zM} : z_gr 8 5 86 F (hp I L ρ) = F (90) (hp I L ρ) := h_gr (by decide) rfl rfl
theorem gr_86_6 {F : Nat → zM} : z_gr 8 6 86 F (hp I L ρ) = F (91) (hp I L ρ) := h_gr (by decide) rfl rfl
theorem gr_86_7 {F : Nat → zM} : z_gr 8 7 86 F (hp I L ρ) = F (92) (hp I L ρ) := h_gr (by decide) rfl rfl
theorem la_87 {F : Int32 → zM} (h : j < 12) : z_la 20 87 (nI j) F (hp I L ρ) = F (I 87 j) (hp I L ρ) := h_la (by decide) rfl h (Nat.le_of_ble_eq_true rfl)
theorem sa_87 {x : Int32} (h : j < 12) : z_sa 20 87 (nI j) x f (hp I L ρ) = f (hp (u2 I 87 j x) L ρ) := h_sa (by decide) rfl h (Nat.le_of_ble_eq_true rfl)
theorem len_87 {F : Int32 → zM} : z_len 87 F (hp I L ρ) = F (nI 12) (hp I L ρ) := h_len (by decide) (by decide) (by decide)
theorem la_88 {F : Int32 → zM} (h : j < 12) : z_la 20 88 (nI j) F (hp I L ρ) = F (I 88 j) (hp I L ρ) := h_la (by decide) rfl h (Nat.le_of_ble_eq_true rfl)
theorem sa_88 {x : Int32} (h : j < 12) : z_sa 20 88 (nI j) x f (hp I L ρ) = f (hp (u2 I 88 j x) L ρ) := h_sa (by decide) rfl h (Nat.le_of_ble_eq_true rfl)
theorem len_88 {F : Int32 → zM} : z_len 88 F (hp I L ρ) = F (nI 12) (hp I L ρ) := h_len (by decide) (by decide) (by decide)
theorem la_89 {F : Int32 → zM} (h : j < 12) : z_la 20 89 (nI j) F (hp I L ρ) = F (I 89 j) (hp I L ρ) := h_la (by decide) rfl h (Nat.le_of_ble_eq_true rfl)
theorem sa_89 {x : Int32} (h : j < 12) : z_sa 20 89 (nI j) x f (hp I L ρ) = f (hp (u2 I 89 j x) L ρ) := h_sa (by decide) rfl h (Nat.le_of_ble_eq_true rfl)
theorem len_89 {F : Int32 → zM} : z_len 89 F (hp I L ρ) = F (nI 12) (hp I L ρ) := h_len (by decide) (by decide) (by decide)
theorem la_90 {F : Int32 → zM} (h : j < 12) : z_la 20 90 (nI j) F (hp I L ρ) = F (I 90 j) (hp I L ρ) := h_la (by decide) rfl h (Nat.le_of_ble_eq_true rfl)
theorem sa_90 {x : Int32} (h : j < 12) : z_sa 20 90 (nI j) x f (hp I L ρ) = f (hp (u2 I 90 j x) L ρ) := h_sa (by decide) rfl h (Nat.le_of_ble_eq_true rfl)
theorem len_90 {F : Int32 → zM} : z_len 90 F (hp I L ρ) = F (nI 12) (hp I L ρ) := h_len (by decide) (by decide) (by decide)
theorem la_91 {F : Int32 → zM} (h : j < 72) : z_la 20 91 (nI j) F (hp I L ρ) = F (I 91 j) (hp I L ρ) := h_la (by decide) rfl h (Nat.le_of_ble_eq_true rfl)
theorem sa_91 {x : Int32} (h : j < 72) : z_sa 20 91 (nI j) x f (hp I L ρ) = f (hp (u2 I 91 j x) L ρ) := h_sa (by decide) rfl h (Nat.le_of_ble_eq_true rfl)
theorem len_91 {F : Int32 → zM} : z_len 91 F (hp I L ρ) = F (nI 72) (hp I L ρ) := h_len (by decide) (by decide) (by decide)
theorem la_92 {F : Int32 → zM} (h : j < 72) : z_la 20 92 (nI j) F (hp I L ρ) = F (I 92 j) (hp I L ρ) := h_la (by decide) rfl h (Nat.le_of_ble_eq_true rfl)
theorem sa_92 {x : Int32} (h : j < 72) : z_sa 20 92 (nI j) x f (hp I L ρ) = f (hp (u2 I 92 j x) L ρ) := h_sa (by decide) rfl h (Nat.le_of_ble_eq_true rfl)
theorem len_92 {F : Int32 → zM} : z_len 92 F (hp I L ρ) = F (nI 72) (hp I L ρ) := h_len (by decide) (by decide) (by decide)
theorem gi_93 {F : Int32 → zM} : z_gi 8 k 93 F (hp I L ρ) = F (I 93 k) (hp I L ρ) := h_gi (by decide) rfl
theorem pi_93 {x : Int32} : z_pi 8 k 93 x f (hp I L ρ) = f (hp (u2 I 93 k x) L ρ) := h_pi (by decide) rfl
theorem rc_93 : z_rc 8 93 f (hp I L ρ) = f (hp I L ρ) := h_rc (by decide) rfl
theorem gr_93_2 {F : Nat → zM} : z_gr 8 2 93 F (hp I L ρ) = F (94) (hp I L ρ) := h_gr (by decide) rfl rfl
theorem gr_93_3 {F : Nat → zM} : z_gr 8 3 93 F (hp I L ρ) = F (95) (hp I L ρ) := h_gr (by decide) rfl rfl
theorem gr_93_4 {F : Nat → zM} : z_gr 8 4 93 F (hp I L ρ) = F (96) (hp I L ρ) := h_gr (by decide) rfl rfl
theorem gr_93_5 {F : Nat → zM} : z_gr 8 5 93 F (hp I L ρ) = F (97) (hp I L ρ) := h_gr (by decide) rfl rfl
theorem gr_93_6 {F : Nat → zM} : z_gr 8 6 93 F (hp I L ρ) = F (98) (hp I L ρ) := h_gr (by decide) rfl rfl
theorem gr_93_7 {F : Nat → zM} : z_gr 8 7 93 F (hp I L ρ) = F (99) (hp I L ρ) := h_gr (by decide) rfl rfl
theorem la_94 {F : Int32 → zM} (h : j < 12) : z_la 20 94 (nI j) F (hp I L ρ) = F (I 94 j) (hp I L ρ) := h_la (by decide) rfl h (Nat.le_of_ble_eq_true rfl)
theorem sa_94 {x : Int32} (h : j < 12) : z_sa 20 94 (nI j) x f (hp I L ρ) = f (hp (u2 I 94 j x) L ρ) := h_sa (by decide) rfl h (Nat.le_of_ble_eq_true rfl)
theorem len_94 {F : Int32 → zM} : z_len 94 F (hp I L ρ) = F (nI 12) (hp I L ρ) := h_len (by decide) (by decide) (by decide)
theorem la_95 {F : Int32 → zM} (h : j < 12) : z_la 20 95 (nI j) F (hp I L ρ) = F (I 95 j) (hp I L ρ) := h_la (by decide) rfl h (Nat.le_of_ble_eq_true rfl)
theorem sa_95 {x : Int32} (h : j < 12) : z_sa 20 95 (nI j) x f (hp I L ρ) = f (hp (u2 I 95 j x) L ρ) := h_sa (by decide) rfl h (Nat.le_of_ble_eq_true rfl)
theorem len_95 {F : Int32 → zM} : z_len 95 F (hp I L ρ) = F (nI 12) (hp I L ρ) := h_len (by decide) (by decide) (by decide)
theorem la_96 {F : Int32 → zM} (h : j < 12) : z_la 20 96 (nI j) F (hp I L ρ) = F (I 96 j) (hp I L ρ) := h_la (by decide) rfl h (Nat.le_of_ble_eq_true rfl)
theorem sa_96 {x : Int32} (h : j < 12) : z_sa 20 96 (nI j) x f (hp I L ρ) = f (hp (u2 I 96 j x) L ρ) := h_sa (by decide) rfl h (Nat.le_of_ble_eq_true rfl)
theorem len_96 {F : Int32 → zM} : z_len 96 F (hp I L ρ) = F (nI 12) (hp I L ρ) := h_len (by decide) (by decide) (by decide)
theorem la_97 {F : Int32 → zM} (h : j < 12) : z_la 20 97 (nI j) F (hp I L ρ) = F (I 97 j) (hp I L ρ) := h_la (by decide) rfl h (Nat.le_of_ble_eq_true rfl)
theorem sa_97 {x : Int32} (h : j < 12) : z_sa 20 97 (nI j) x f (hp I L ρ) = f (hp (u2 I 97 j x) L ρ) := h_sa (by decide) rfl h (Nat.le_of_ble_eq_true rfl)
theorem len_97 {F : Int32 → zM} : z_len 97 F (hp I L ρ) = F (nI 12) (hp I L ρ) := h_len (by decide) (by decide) (by decide)
theorem la_98 {F : Int32 → zM} (h : j < 72) : z_la 20 98 (nI j) F (hp I L ρ) = F (I 98 j) (hp I L ρ) := h_la (by decide) rfl h (Nat.le_of_ble_eq_true rfl)
theorem sa_98 {x : Int32} (h : j < 72) : z_sa 20 98 (nI j) x f (hp I L ρ) = f (hp (u2 I 98 j x) L ρ) := h_sa (by decide) rfl h (Nat.le_of_ble_eq_true rfl)
theorem len_98 {F : Int32 → zM} : z_len 98 F (hp I L ρ) = F (nI 72) (hp I L ρ) := h_len (by decide) (by decide) (by decide)
theorem la_99 {F : Int32 → zM} (h : j < 72) : z_la 20 99 (nI j) F (hp I L ρ) = F (I 99 j) (hp I L ρ) := h_la (by decide) rfl h (Nat.le_of_ble_eq_true rfl)
theorem sa_99 {x : Int32} (h : j < 72) : z_sa 20 99 (nI j) x f (hp I L ρ) = f (hp (u2 I 99 j x) L ρ) := h_sa (by decide) rfl h (Nat.le_of_ble_eq_true rfl)
theorem len_99 {F : Int32 → zM} : z_len 99 F (hp I L ρ) = F (nI 72) (hp I L ρ) := h_len (by decide) (by decide) (by decide)
theorem gi_100 {F : Int32 → zM} : z_gi 8 k 100 F (hp I L ρ) = F (I 100 k) (hp I L ρ) := h_gi (by decide) rfl
theorem pi_100 {x : Int32} : z_pi 8 k 100 x f (hp I L ρ) = f (hp (u2 I 100 k x) L ρ) := h_pi (by decide) rfl
theorem rc_100 : z_rc 8 100 f (hp I L ρ) = f (hp I L ρ) := h_rc (by decide) rfl
theorem gr_100_2 {F : Nat → zM} : z_gr 8 2 100 F (hp I L ρ) = F (101) (hp I L ρ) := h_gr (by decide) rfl rfl
theorem gr_100_3 {F : Nat → zM} : z_gr 8 3 100 F (hp I L ρ) = F (102) (hp I L ρ) := h_gr (by decide) rfl rfl
theorem gr_100_4 {F : Nat → zM} : z_gr 8 4 100 F (hp I L ρ) = F (103) (hp I L ρ) := h_gr (by decide) rfl rfl
theorem gr_100_5 {F : Nat → zM} : z_gr 8 5 100 F (hp I L ρ) = F (104) (hp I L ρ) := h_gr (by decide) rfl rfl
theorem gr_100_6 {F : Nat → zM} : z_gr 8 6 100 F (hp I L ρ) = F (105) (hp I L ρ) := h_gr (by decide) rfl rfl
theorem gr_100_7 {F : Nat → zM} : z_gr 8 7 100 F (hp I L ρ) = F (106) (hp I L ρ) := h_gr (by decide) rfl rfl
theorem la_101 {F : Int32 → zM} (h : j < 12) : z_la 20 101 (nI j) F (hp I L ρ) = F (I 101 j) (hp I L ρ) := h_la (by decide) rfl h (Nat.le_of_ble_eq_true rfl)
theorem sa_101 {x : Int32} (h : j < 12) : z_sa 20 101 (nI j) x f (hp I L ρ) = f (hp (u2 I 101 j x) L ρ) := h_sa (by decide) rfl h (Nat.le_of_ble_eq_true rfl)
theorem len_101 {F : Int32 → zM} : z_len 101 F (hp I L ρ) = F (nI 12) (hp I L ρ) := h_len (by decide) (by decide) (by decide)
theorem la_102 {F : Int32 → zM} (h : j < 12) : z_la 20 102 (nI j) F (hp I L ρ) = F (I 102 j) (hp I L ρ) := h_la (by decide) rfl h (Nat.le_of_ble_eq_true rfl)
theorem sa_102 {x : Int32} (h : j < 12) : z_sa 20 102 (nI j) x f (hp I L ρ) = f (hp (u2 I 102 j x) L ρ) := h_sa (by decide) rfl h (Nat.le_of_ble_eq_true rfl)
theorem len_102 {F : Int32 → zM} : z_len 102 F (hp I L ρ) = F (nI 12) (hp I L ρ) := h_len (by decide) (by decide) (by decide)
theorem la_103 {F : Int32 → zM} (h : j < 12) : z_la 20 103 (nI j) F (hp I L ρ) = F (I 103 j) (hp I L ρ) := h_la (by decide) rfl h (Nat.le_of_ble_eq_true rfl)
theorem sa_103 {x : Int32} (h : j < 12) : z_sa 20 103 (nI j) x f (hp I L ρ) = f (hp (u2 I 103 j x) L ρ) := h_sa (by decide) rfl h (Nat.le_of_ble_eq_true rfl)
theorem len_103 {F : Int32 → zM} : z_len 103 F (hp I L ρ) = F (nI 12) (hp I L ρ) := h_len (by decide) (by decide) (by decide)
theorem la_104 {F : Int32 → zM} (h : j < 12) : z_la 20 104 (nI j) F (hp I L ρ) = F (I 104 j) (hp I L ρ) := h_la (by decide) rfl h (Nat.le_of_ble_eq_true rfl)
theorem sa_104 {x : Int32} (h : j < 12) : z_sa 20 104 (nI j) x f (hp I L ρ) = f (hp (u2 I 104 j x) L ρ) := h_sa (by decide) rfl h (Nat.le_of_ble_eq_true rfl)
theorem len_104 {F : Int32 → zM} : z_len 104 F (hp I L ρ) = F (nI 12) (hp I L ρ) := h_len (by decide) (by decide) (by decide)
theorem la_105 {F : Int32 → zM} (h : j < 72) : z_la 20 105 (nI j) F (hp I L ρ) = F (I 105 j) (hp I L ρ) := h_la (by decide) rfl h (Nat.le_of_ble_eq_true rfl)
theorem sa_105 {x : Int32} (h : j < 72) : z_sa 20 105 (nI j) x f (hp I L ρ) = f (hp (u2 I 105 j x) L ρ) := h_sa (by decide) rfl h (Nat.le_of_ble_eq_true rfl)
theorem len_105 {F : Int32 → zM} : z_len 105 F (hp I L ρ) = F (nI 72) (hp I L ρ) := h_len (by decide) (by decide) (by decide)
theorem la_106 {F : Int32 → zM} (h : j < 72) : z_la 20 106 (nI j) F (hp I L ρ) = F (I 106 j) (hp I L ρ) := h_la (by decide) rfl h (Nat.le_of_ble_eq_true rfl)
theorem sa_106 {x : Int32} (h : j < 72) : z_sa 20 106 (nI j) x f (hp I L ρ) = f (hp (u2 I 106 j x) L ρ) := h_sa (by decide) rfl h (Nat.le_of_ble_eq_true rfl)
theorem len_106 {F : Int32 → zM} : z_len 106 F (hp I L ρ) = F (nI 72) (hp I L ρ) := h_len (by decide) (by decide) (by decide)
theorem gi_107 {F : Int32 → zM} : z_gi 8 k 107 F (hp I L ρ) = F (I 107 k) (hp I L ρ) := h_gi (by decide) rfl
theorem pi_107 {x : Int32} : z_pi 8 k 107 x f (hp I L ρ) = f (hp (u2 I 107 k x) L ρ) := h_pi (by decide) rfl
theorem rc_107 : z_rc 8 107 f (hp I L ρ) = f (hp I L ρ) := h_rc (by decide) rfl
theorem gr_107_2 {F : Nat → zM} : z_gr 8 2 107 F (hp I L ρ) = F (108) (hp I L ρ) := h_gr (by decide) rfl rfl
theorem gr_107_3 {F : Nat → zM} : z_gr 8 3 107 F (hp I L ρ) = F (109) (hp I L ρ) := h_gr (by decide) rfl rfl
theorem gr_107_4 {F : Nat → zM} : z_gr 8 4 107 F (hp I L ρ) = F (110) (hp I L ρ) := h_gr (by decide) rfl rfl
theorem gr_107_5 {F : Nat → zM} : z_gr 8 5 107 F (hp I L ρ) = F (111) (hp I L ρ) := h_gr (by decide) rfl rfl
theorem gr_107_6 {F : Nat → zM} : z_gr 8 6 107 F (hp I L ρ) = F (112) (hp I L ρ) := h_gr (by decide) rfl rfl
theorem gr_107_7 {F : Nat → zM} : z_gr 8 7 107 F (hp I L ρ) = F (113) (hp I L ρ) := h_gr (by decide) rfl rfl
theorem la_108 {F : Int32 → zM} (h : j < 12) : z_la 20 108 (nI j) F (hp I L ρ) = F (I 108 j) (hp I L ρ) := h_la (by decide) rfl h (Nat.le_of_ble_eq_true rfl)
theorem sa_108 {x : Int32} (h : j < 12) : z_sa 20 108 (nI j) x f (hp I L ρ) = f (hp (u2 I 108 j x) L ρ) := h_sa (by decide) rfl h (Nat.le_of_ble_eq_true rfl)
theorem len_108 {F : Int32 → zM} : z_len 108 F (hp I L ρ) = F (nI 12) (hp I L ρ) := h_len (by decide) (by decide) (by decide)
theorem la_109 {F : Int32 → zM} (h : j < 12) : z_la 20 109 (nI j) F (hp I L ρ) = F (I 109 j) (hp I L ρ) := h_la (by decide) rfl h (Nat.le_of_ble_eq_true rfl)
theorem sa_109 {x : Int32} (h : j < 12) : z_sa 20 109 (nI j) x f (hp I L ρ) = f (hp (u2 I 109 j x) L ρ) := h_sa (by decide) rfl h (Nat.le_of_ble_eq_true rfl)
theorem len_109 {F : Int32 → zM} : z_len 109 F (hp I L ρ) = F (nI 12) (hp I L ρ) := h_len (by decide) (by decide) (by decide)
theorem la_110 {F : Int32 → zM} (h : j < 12) : z_la 20 110 (nI j) F (hp I L ρ) = F (I 110 j) (hp I L ρ) := h_la (by decide) rfl h (Nat.le_of_ble_eq_true rfl)
theorem sa_110 {x : Int32} (h : j < 12) : z_sa 20 110 (nI j) x f (hp I L ρ) = f (hp (u2 I 110 j x) L ρ) := h_sa (by decide) rfl h (Nat.le_of_ble_eq_true rfl)
theorem len_110 {F : Int32 → zM} : z_len 110 F (hp I L ρ) = F (nI 12) (hp I L ρ) := h_len (by decide) (by decide) (by decide)
theorem la_111 {F : Int32 → zM} (h : j < 12) : z_la 20 111 (nI j) F (hp I L ρ) = F (I 111 j) (hp I L ρ) := h_la (by decide) rfl h (Nat.le_of_ble_eq_true rfl)
theorem sa_111 {x : Int32} (h : j < 12) : z_sa 20 111 (nI j) x f (hp I L ρ) = f (hp (u2 I 111 j x) L ρ) := h_sa (by decide) rfl h (Nat.le_of_ble_eq_true rfl)
theorem len_111 {F : Int32 → zM} : z_len 111 F (hp I L ρ) = F (nI 12) (hp I L ρ) := h_len (by decide) (by decide) (by decide)
theorem la_112 {F : Int32 → zM} (h : j < 72) : z_la 20 112 (nI j) F (hp I L ρ) = F (I 112 j) (hp I L ρ) := h_la (by decide) rfl h (Nat.le_of_ble_eq_true rfl)
theorem sa_112 {x : Int32} (h : j < 72) : z_sa 20 112 (nI j) x f (hp I L ρ) = f (hp (u2 I 112 j x) L ρ) := h_sa (by decide) rfl h (Nat.le_of_ble_eq_true rfl)
theorem len_112 {F : Int32 → zM} : z_len 112 F (hp I L ρ) = F (nI 72) (hp I L ρ) := h_len (by decide) (by decide) (by decide)
theorem la_113 {F : Int32 → zM} (h : j < 72) : z_la 20 113 (nI j) F (hp I L ρ) = F (I 113 j) (hp I L ρ) := h_la (by decide) rfl h (Nat.le_of_ble_eq_true rfl)
theorem sa_113 {x : Int32} (h : j < 72) : z_sa 20 113 (nI j) x f (hp I L ρ) = f (hp (u2 I 113 j x) L ρ) := h_sa (by decide) rfl h (Nat.le_of_ble_eq_true rfl)
theorem len_113 {F : Int32 → zM} : z_len 113 F (hp I L ρ) = F (nI 72) (hp I L ρ) := h_len (by decide) (by decide) (by decide)
theorem gi_114 {F : Int32 → zM} : z_gi 8 k 114 F (hp I L ρ) = F (I 114 k) (hp I L ρ) := h_gi (by decide) rfl
theorem pi_114 {x : Int32} : z_pi 8 k 114 x f (hp I L ρ) = f (hp (u2 I 114 k x) L ρ) := h_pi (by decide) rfl
theorem rc_114 : z_rc 8 114 f (hp I L ρ) = f (hp I L ρ) := h_rc (by decide) rfl
theorem gr_114_2 {F : Nat → zM} : z_gr 8 2 114 F (hp I L ρ) = F (115) (hp I L ρ) := h_gr (by decide) rfl rfl
theorem gr_114_3 {F : Nat → zM} : z_gr 8 3 114 F (hp I L ρ) = F (116) (hp I L ρ) := h_gr (by decide) rfl rfl
theorem gr_114_4 {F : Nat → zM} : z_gr 8 4 114 F (hp I L ρ) = F (117) (hp I L ρ) := h_gr (by decide) rfl rfl
theorem gr_114_5 {F : Nat → zM} : z_gr 8 5 114 F (hp I L ρ) = F (118) (hp I L ρ) := h_gr (by decide) rfl rfl
theorem gr_114_6 {F : Nat → zM} : z_gr 8 6 114 F (hp I L ρ) = F (119) (hp I L ρ) := h_gr (by decide) rfl rfl
theorem gr_114_7 {F : Nat → zM} : z_gr 8 7 114 F (hp I L ρ) = F (120) (hp I L ρ) := h_gr (by decide) rfl rfl
theorem la_115 {F : Int32 → zM} (h : j < 12) : z_la 20 115 (nI j) F (hp I L ρ) = F (I 115 j) (hp I L ρ) := h_la (by decide) rfl h (Nat.le_of_ble_eq_true rfl)
theorem sa_115 {x : Int32} (h : j < 12) : z_sa 20 115 (nI j) x f (hp I L ρ) = f (hp (u2 I 115 j x) L ρ) := h_sa (by decide) rfl h (Nat.le_of_ble_eq_true rfl)
theorem len_115 {F : Int32 → zM} : z_len 115 F (hp I L ρ) = F (nI 12) (hp I L ρ) := h_len (by decide) (by decide) (by decide)
theorem la_116 {F : Int32 → zM} (h : j < 12) : z_la 20 116 (nI j) F (hp I L ρ) = F (I 116 j) (hp I L ρ) := h_la (by decide) rfl h (Nat.le_of_ble_eq_true rfl)
theorem sa_116 {x : Int32} (h : j < 12) : z_sa 20 116 (nI j) x f (hp I L ρ) = f (hp (u2 I 116 j x) L ρ) := h_sa (by decide) rfl h (Nat.le_of_ble_eq_true rfl)
theorem len_116 {F : Int32 → zM} : z_len 116 F (hp I L ρ) = F (nI 12) (hp I L ρ) := h_len (by decide) (by decide) (by decide)
theorem la_117 {F : Int32 → zM} (h : j < 12) : z_la 20 117 (nI j) F (hp I L ρ) = F (I 117 j) (hp I L ρ) := h_la (by decide) rfl h (Nat.le_of_ble_eq_true rfl)
theorem sa_117 {x : Int32} (h : j < 12) : z_sa 20 117 (nI j) x f (hp I L ρ) = f (hp (u2 I 117 j x) L ρ) := h_sa (by decide) rfl h (Nat.le_of_ble_eq_true rfl)
theorem len_117 {F : Int32 → zM} : z_len 117 F (hp I L ρ) = F (nI 12) (hp I L ρ) := h_len (by decide) (by decide) (by decide)
theorem la_118 {F : Int32 → zM} (h : j < 12) : z_la 20 118 (nI j) F (hp I L ρ) = F (I 118 j) (hp I L ρ) := h_la (by decide) rfl h (Nat.le_of_ble_eq_true rfl)
theorem sa_118 {x : Int32} (h : j < 12) : z_sa 20 118 (nI j) x f (hp I L ρ) = f (hp (u2 I 118 j x) L ρ) := h_sa (by decide) rfl h (Nat.le_of_ble_eq_true rfl)
theorem len_118 {F : Int32 → zM} : z_len 118 F (hp I L ρ) = F (nI 12) (hp I L ρ) := h_len (by decide) (by decide) (by decide)
theorem la_119 {F : Int32 → zM} (h : j < 72) : z_la 20 119 (nI j) F (hp I L ρ) = F (I 119 j) (hp I L ρ) := h_la (by decide) rfl h (Nat.le_of_ble_eq_true rfl)
theorem sa_119 {x : Int32} (h : j < 72) : z_sa 20 119 (nI j) x f (hp I L ρ) = f (hp (u2 I 119 j x) L ρ) := h_sa (by decide) rfl h (Nat.le_of_ble_eq_true rfl)
theorem len_119 {F : Int32 → zM} : z_len 119 F (hp I L ρ) = F (nI 72) (hp I L ρ) := h_len (by decide) (by decide) (by decide)
theorem la_120 {F : Int32 → zM} (h : j < 72) : z_la 20 120 (nI j) F (hp I L ρ) = F (I 120 j) (hp I L ρ) := h_la (by decide) rfl h (Nat.le_of_ble_eq_true rfl)
theorem sa_120 {x : Int32} (h : j < 72) : z_sa 20 120 (nI j) x f (hp I L ρ) = f (hp (u2 I 120 j x) L ρ) := h_sa (by decide) rfl h (Nat.le_of_ble_eq_true rfl)
theorem len_120 {F : Int32 → zM} : z_len 120 F (hp I L ρ) = F (nI 72) (hp I L ρ) := h_len (by decide) (by decide) (by decide)
theorem gi_121 {F : Int32 → zM} : z_gi 8 k 121 F (hp I L ρ) = F (I 121 k) (hp I L ρ) := h_gi (by decide) rfl
theorem pi_121 {x : Int32} : z_pi 8 k 121 x f (hp I L ρ) = f (hp (u2 I 121 k x) L ρ) := h_pi (by decide) rfl
theorem rc_121 : z_rc 8 121 f (hp I L ρ) = f (hp I L ρ) := h_rc (by decide) rfl
theorem gr_121_2 {F : Nat → zM} : z_gr 8 2 121 F (hp I L ρ) = F (122) (hp I L ρ) := h_gr (by decide) rfl rfl
theorem gr_121_3 {F : Nat → zM} : z_gr 8 3 121 F (hp I L ρ) = F (123) (hp I L ρ) := h_gr (by decide) rfl rfl
theorem gr_121_4 {F : Nat → zM} : z_gr 8 4 121 F (hp I L ρ) = F (124) (hp I L ρ) := h_gr (by decide) rfl rfl
theorem gr_121_5 {F : Nat → zM} : z_gr 8 5 121 F (hp I L ρ) = F (125) (hp I L ρ) := h_gr (by decide) rfl rfl
theorem gr_121_6 {F : Nat → zM} : z_gr 8 6 121 F (hp I L ρ) = F (126) (hp I L ρ) := h_gr (by decide) rfl rfl
theorem gr_121_7 {F : Nat → zM} : z_gr 8 7 121 F (hp I L ρ) = F (127) (hp I L ρ) := h_gr (by decide) rfl rfl
theorem la_122 {F : Int32 → zM} (h : j < 12) : z_la 20 122 (nI j) F (hp I L ρ) = F (I 122 j) (hp I L ρ) := h_la (by decide) rfl h (Nat.le_of_ble_eq_true rfl)
theorem sa_122 {x : Int32} (h : j < 12) : z_sa 20 122 (nI j) x f (hp I L ρ) = f (hp (u2 I 122 j x) L ρ) := h_sa (by decide) rfl h (Nat.le_of_ble_eq_true rfl)
theorem len_122 {F : Int32 → zM} : z_len 122 F (hp I L ρ) = F (nI 12) (hp I L ρ) := h_len (by decide) (by decide) (by decide)
theorem la_123 {F : Int32 → zM} (h : j < 12) : z_la 20 123 (nI j) F (hp I L ρ) = F (I 123 j) (hp I L ρ) := h_la (by decide) rfl h (Nat.le_of_ble_eq_true rfl)
theorem sa_123 {x : Int32} (h : j < 12) : z_sa 20 123 (nI j) x f (hp I L ρ) = f (hp (u2 I 123 j x) L ρ) := h_sa (by decide) rfl h (Nat.le_of_ble_eq_true rfl)
theorem len_123 {F : Int32 → zM} : z_len 123 F (hp I L ρ) = F (nI 12) (hp I L ρ) := h_len (by decide) (by decide) (by decide)
theorem la_124 {F : Int32 → zM} (h : j < 12) : z_la 20 124 (nI j) F (hp I L ρ) = F (I 124 j) (hp I L ρ) := h_la (by decide) rfl h (Nat.le_of_ble_eq_true rfl)
theorem sa_124 {x : Int32} (h : j < 12) : z_sa 20 124 (nI j) x f (hp I L ρ) = f (hp (u2 I 124 j x) L ρ) := h_sa (by decide) rfl h (Nat.le_of_ble_eq_true rfl)
theorem len_124 {F : Int32 → zM} : z_len 124 F (hp I L ρ) = F (nI 12) (hp I L ρ) := h_len (by decide) (by decide) (by decide)
theorem la_125 {F : Int32 → zM} (h : j < 12) : z_la 20 125 (nI j) F (hp I L ρ) = F (I 125 j) (hp I L ρ) := h_la (by decide) rfl h (Nat.le_of_ble_eq_true rfl)
theorem sa_125 {x : Int32} (h : j < 12) : z_sa 20 125 (nI j) x f (hp I L ρ) = f (hp (u2 I 125 j x) L ρ) := h_sa (by decide) rfl h (Nat.le_of_ble_eq_true rfl)
theorem len_125 {F : Int32 → zM} : z_len 125 F (hp I L ρ) = F (nI 12) (hp I L ρ) := h_len (by decide) (by decide) (by decide)
theorem la_126 {F : Int32 → zM} (h : j < 72) : z_la 20 126 (nI j) F (hp I L ρ) = F (I 126 j) (hp I L ρ) := h_la (by decide) rfl h (Nat.le_of_ble_eq_true rfl)
theorem sa_126 {x : Int32} (h : j < 72) : z_sa 20 126 (nI j) x f (hp I L ρ) = f (hp (u2 I 126 j x) L ρ) := h_sa (by decide) rfl h (Nat.le_of_ble_eq_true rfl)
theorem len_126 {F : Int32 → zM} : z_len 126 F (hp I L ρ) = F (nI 72) (hp I L ρ) := h_len (by decide) (by decide) (by decide)
theorem la_127 {F : Int32 → zM} (h : j < 72) : z_la 20 127 (nI j) F (hp I L ρ) = F (I 127 j) (hp I L ρ) := h_la (by decide) rfl h (Nat.le_of_ble_eq_true rfl)
theorem sa_127 {x : Int32} (h : j < 72) : z_sa 20 127 (nI j) x f (hp I L ρ) = f (hp (u2 I 127 j x) L ρ) := h_sa (by decide) rfl h (Nat.le_of_ble_eq_true rfl)
theorem len_127 {F : Int32 → zM} : z_len 127 F (hp I L ρ) = F (nI 72) (hp I L ρ) := h_len (by decide) (by decide) (by decide)
theorem gi_128 {F : Int32 → zM} : z_gi 8 k 128 F (hp I L ρ) = F (I 128 k) (hp I L ρ) := h_gi (by decide) rfl
theorem pi_128 {x : Int32} : z_pi 8 k 128 x f (hp I L ρ) = f (hp (u2 I 128 k x) L ρ) := h_pi (by decide) rfl
theorem rc_128 : z_rc 8 128 f (hp I L ρ) = f (hp I L ρ) := h_rc (by decide) rfl
theorem gr_128_2 {F : Nat → zM} : z_gr 8 2 128 F (hp I L ρ) = F (129) (hp I L ρ) := h_gr (by decide) rfl rfl
theorem gr_128_3 {F : Nat → zM} : z_gr 8 3 128 F (hp I L ρ) = F (130) (hp I L ρ) := h_gr (by decide) rfl rfl
theorem gr_128_4 {F : Nat → zM} : z_gr 8 4 128 F (hp I L ρ) = F (131) (hp I L ρ) := h_gr (by decide) rfl rfl
theorem gr_128_5 {F : Nat → zM} : z_gr 8 5 128 F (hp I L ρ) = F (132) (hp I L ρ) := h_gr (by decide) rfl rfl
theorem gr_128_6 {F : Nat → zM} : z_gr 8 6 128 F (hp I L ρ) = F (133) (hp I L ρ) := h_gr (by decide) rfl rfl
theorem gr_128_7 {F : Nat → zM} : z_gr 8 7 128 F (hp I L ρ) = F (134) (hp I L ρ) := h_gr (by decide) rfl rfl
theorem la_129 {F : Int32 → zM} (h : j < 12) : z_la 20 129 (nI j) F (hp I L ρ) = F (I 129 j) (hp I L ρ) := h_la (by decide) rfl h (Nat.le_of_ble_eq_true rfl)
theorem sa_129 {x : Int32} (h : j < 12) : z_sa 20 129 (nI j) x f (hp I L ρ) = f (hp (u2 I 129 j x) L ρ) := h_sa (by decide) rfl h (Nat.le_of_ble_eq_true rfl)
theorem len_129 {F : Int32 → zM} : z_len 129 F (hp I L ρ) = F (nI 12) (hp I L ρ) := h_len (by decide) (by decide) (by decide)
theorem la_130 {F : Int32 → zM} (h : j < 12) : z_la 20 130 (nI j) F (hp I L ρ) = F (I 130 j) (hp I L ρ) := h_la (by decide) rfl h (Nat.le_of_ble_eq_true rfl)
theorem sa_130 {x : Int32} (h : j < 12) : z_sa 20 130 (nI j) x f (hp I L ρ) = f (hp (u2 I 130 j x) L ρ) := h_sa (by decide) rfl h (Nat.le_of_ble_eq_true rfl)
theorem len_130 {F : Int32 → zM} : z_len 130 F (hp I L ρ) = F (nI 12) (hp I L ρ) := h_len (by decide) (by decide) (by decide)
theorem la_131 {F : Int32 → zM} (h : j < 12) : z_la 20 131 (nI j) F (hp I L ρ) = F (I 131 j) (hp I L ρ) := h_la (by decide) rfl h (Nat.le_of_ble_eq_true rfl)
theorem sa_131 {x : Int32} (h : j < 12) : z_sa 20 131 (nI j) x f (hp I L ρ) = f (hp (u2 I 131 j x) L ρ) := h_sa (by decide) rfl h (Nat.le_of_ble_eq_true rfl)
theorem len_131 {F : Int32 → zM} : z_len 131 F (hp I L ρ) = F (nI 12) (hp I L ρ) := h_len (by decide) (by decide) (by decide)
theorem la_132 {F : Int32 → zM} (h : j < 12) : z_la 20 132 (nI j) F (hp I L ρ) = F (I 132 j) (hp I L ρ) := h_la (by decide) rfl h (Nat.le_of_ble_eq_true rfl)
theorem sa_132 {x : Int32} (h : j < 12) : z_sa 20 132 (nI j) x f (hp I L ρ) = f (hp (u2 I 132 j x) L ρ) := h_sa (by decide) rfl h (Nat.le_of_ble_eq_true rfl)
theorem len_132 {F : Int32 → zM} : z_len 132 F (hp I L ρ) = F (nI 12) (hp I L ρ) := h_len (by decide) (by decide) (by decide)
theorem la_133 {F : Int32 → zM} (h : j < 72) : z_la 20 133 (nI j) F (hp I L ρ) = F (I 133 j) (hp I L ρ) := h_la (by decide) rfl h (Nat.le_of_ble_eq_true rfl)
theorem sa_133 {x : Int32} (h : j < 72) : z_sa 20 133 (nI j) x f (hp I L ρ) = f (hp (u2 I 133 j x) L ρ) := h_sa (by decide) rfl h (Nat.le_of_ble_eq_true rfl)
theorem len_133 {F : Int32 → zM} : z_len 133 F (hp I L ρ) = F (nI 72) (hp I L ρ) := h_len (by decide) (by decide) (by decide)
theorem la_134 {F : Int32 → zM} (h : j < 72) : z_la 20 134 (nI j) F (hp I L ρ) = F (I 134 j) (hp I L ρ) := h_la (by decide) rfl h (Nat.le_of_ble_eq_true rfl)
theorem sa_134 {x : Int32} (h : j < 72) : z_sa 20 134 (nI j) x f (hp I L ρ) = f (hp (u2 I 134 j x) L ρ) := h_sa (by decide) rfl h (Nat.le_of_ble_eq_true rfl)
theorem len_134 {F : Int32 → zM} : z_len 134 F (hp I L ρ) = F (nI 72) (hp I L ρ) := h_len (by decide) (by decide) (by decide)
theorem gi_135 {F : Int32 → zM} : z_gi 8 k 135 F (hp I L ρ) = F (I 135 k) (hp I L ρ) := h_gi (by decide) rfl
theorem pi_135 {x : Int32} : z_pi 8 k 135 x f (hp I L ρ) = f (hp (u2 I 135 k x) L ρ) := h_pi (by decide) rfl
theorem rc_135 : z_rc 8 135 f (hp I L ρ) = f (hp I L ρ) := h_rc (by decide) rfl
theorem gr_135_2 {F : Nat → zM} : z_gr 8 2 135 F (hp I L ρ) = F (136) (hp I L ρ) := h_gr (by decide) rfl rfl
theorem gr_135_3 {F : Nat → zM} : z_gr 8 3 135 F (hp I L ρ) = F (137) (hp I L ρ) := h_gr (by decide) rfl rfl
theorem gr_135_4 {F : Nat → zM} : z_gr 8 4 135 F (hp I L ρ) = F (138) (hp I L ρ) := h_gr (by decide) rfl rfl
theorem gr_135_5 {F : Nat → zM} : z_gr 8 5 135 F (hp I L ρ) = F (139) (hp I L ρ) := h_gr (by decide) rfl rfl
theorem gr_135_6 {F : Nat → zM} : z_gr 8 6 135 F (hp I L ρ) = F (140) (hp I L ρ) := h_gr (by decide) rfl rfl
theorem gr_135_7 {F : Nat → zM} : z_gr 8 7 135 F (hp I L ρ) = F (141) (hp I L ρ) := h_gr (by decide) rfl rfl
theorem la_136 {F : Int32 → zM} (h : j < 12) : z_la 20 136 (nI j) F (hp I L ρ) = F (I 136 j) (hp I L ρ) := h_la (by decide) rfl h (Nat.le_of_ble_eq_true rfl)
theorem sa_136 {x : Int32} (h : j < 12) : z_sa 20 136 (nI j) x f (hp I L ρ) = f (hp (u2 I 136 j x) L ρ) := h_sa (by decide) rfl h (Nat.le_of_ble_eq_true rfl)
theorem len_136 {F : Int32 → zM} : z_len 136 F (hp I L ρ) = F (nI 12) (hp I L ρ) := h_len (by decide) (by decide) (by decide)
theorem la_137 {F : Int32 → zM} (h : j < 12) : z_la 20 137 (nI j) F (hp I L ρ) = F (I 137 j) (hp I L ρ) := h_la (by decide) rfl h (Nat.le_of_ble_eq_true rfl)
theorem sa_137 {x : Int32} (h : j < 12) : z_sa 20 137 (nI j) x f (hp I L ρ) = f (hp (u2 I 137 j x) L ρ) := h_sa (by decide) rfl h (Nat.le_of_ble_eq_true rfl)
theorem len_137 {F : Int32 → zM} : z_len 137 F (hp I L ρ) = F (nI 12) (hp I L ρ) := h_len (by decide) (by decide) (by decide)
theorem la_138 {F : Int32 → zM} (h : j < 12) : z_la 20 138 (nI j) F (hp I L ρ) = F (I 138 j) (hp I L ρ) := h_la (by decide) rfl h (Nat.le_of_ble_eq_true rfl)
theorem sa_138 {x : Int32} (h : j < 12) : z_sa 20 138 (nI j) x f (hp I L ρ) = f (hp (u2 I 138 j x) L ρ) := h_sa (by decide) rfl h (Nat.le_of_ble_eq_true rfl)
theorem len_138 {F : Int32 → zM} : z_len 138 F (hp I L ρ) = F (nI 12) (hp I L ρ) := h_len (by decide) (by decide) (by decide)
theorem la_139 {F : Int32 → zM} (h : j < 12) : z_la 20 139 (nI j) F (hp I L ρ) = F (I 139 j) (hp I L ρ) := h_la (by decide) rfl h (Nat.le_of_ble_eq_true rfl)
theorem sa_139 {x : Int32} (h : j < 12) : z_sa 20 139 (nI j) x f (hp I L ρ) = f (hp (u2 I 139 j x) L ρ) := h_sa (by decide) rfl h (Nat.le_of_ble_eq_true rfl)
theorem len_139 {F : Int32 → zM} : z_len 139 F (hp I L ρ) = F (nI 12) (hp I L ρ) := h_len (by decide) (by decide) (by decide)
theorem la_140 {F : Int32 → zM} (h : j < 72) : z_la 20 140 (nI j) F (hp I L ρ) = F (I 140 j) (hp I L ρ) := h_la (by decide) rfl h (Nat.le_of_ble_eq_true rfl)
theorem sa_140 {x : Int32} (h : j < 72) : z_sa 20 140 (nI j) x f (hp I L ρ) = f (hp (u2 I 140 j x) L ρ) := h_sa (by decide) rfl h (Nat.le_of_ble_eq_true rfl)
theorem len_140 {F : Int32 → zM} : z_len 140 F (hp I L ρ) = F (nI 72) (hp I L ρ) := h_len (by decide) (by decide) (by decide)
theorem la_141 {F : Int32 → zM} (h : j < 72) : z_la 20 141 (nI j) F (hp I L ρ) = F (I 141 j) (hp I L ρ) := h_la (by decide) rfl h (Nat.le_of_ble_eq_true rfl)
theorem sa_141 {x : Int32} (h : j < 72) : z_sa 20 141 (nI j) x f (hp I L ρ) = f (hp (u2 I 141 j x) L ρ) := h_sa (by decide) rfl h (Nat.le_of_ble_eq_true rfl)
theorem len_141 {F : Int32 → zM} : z_len 141 F (hp I L ρ) = F (nI 72) (hp I L ρ) := h_len (by decide) (by decide) (by decide)
theorem gi_142 {F : Int32 → zM} : z_gi 8 k 142 F (hp I L ρ) = F (I 142 k) (hp I L ρ) := h_gi (by decide) rfl
theorem pi_142 {x : Int32} : z_pi 8 k 142 x f (hp I L ρ) = f (hp (u2 I 142 k x) L ρ) := h_pi (by decide) rfl
theorem rc_142 : z_rc 8 142 f (hp I L ρ) = f (hp I L ρ) := h_rc (by decide) rfl
theorem gr_142_2 {F : Nat → zM} : z_gr 8 2 142 F (hp I L ρ) = F (143) (hp I L ρ) := h_gr (by decide) rfl rfl
theorem gr_142_3 {F : Nat → zM} : z_gr 8 3 142 F (hp I L ρ) = F (144) (hp I L ρ) := h_gr (by decide) rfl rfl
theorem gr_142_4 {F : Nat → zM} : z_gr 8 4 142 F (hp I L ρ) = F (145) (hp I L ρ) := h_gr (by decide) rfl rfl
theorem gr_142_5 {F : Nat → zM} : z_gr 8 5 142 F (hp I L ρ) = F (146) (hp I L ρ) := h_gr (by decide) rfl rfl
theorem gr_142_6 {F : Nat → zM} : z_gr 8 6 142 F (hp I L ρ) = F (147) (hp I L ρ) := h_gr (by decide) rfl rfl
theorem gr_142_7 {F : Nat → zM} : z_gr 8 7 142 F (hp I L ρ) = F (148) (hp I L ρ) := h_gr (by decide) rfl rfl
theorem la_143 {F : Int32 → zM} (h : j < 12) : z_la 20 143 (nI j) F (hp I L ρ) = F (I 143 j) (hp I L ρ) := h_la (by decide) rfl h (Nat.le_of_ble_eq_true rfl)
theorem sa_143 {x : Int32} (h : j < 12) : z_sa 20 143 (nI j) x f (hp I L ρ) = f (hp (u2 I 143 j x) L ρ) := h_sa (by decide) rfl h (Nat.le_of_ble_eq_true rfl)
theorem len_143 {F : Int32 → zM} : z_len 143 F (hp I L ρ) = F (nI 12) (hp I L ρ) := h_len (by decide) (by decide) (by decide)
theorem la_144 {F : Int32 → zM} (h : j < 12) : z_la 20 144 (nI j) F (hp I L ρ) = F (I 144 j) (hp I L ρ) := h_la (by decide) rfl h (Nat.le_of_ble_eq_true rfl)
theorem sa_144 {x : Int32} (h : j < 12) : z_sa 20 144 (nI j) x f (hp I L ρ) = f (hp (u2 I 144 j x) L ρ) := h_sa (by decide) rfl h (Nat.le_of_ble_eq_true rfl)
theorem len_144 {F : Int32 → zM} : z_len 144 F (hp I L ρ) = F (nI 12) (hp I L ρ) := h_len (by decide) (by decide) (by decide)
theorem la_145 {F : Int32 → zM} (h : j < 12) : z_la 20 145 (nI j) F (hp I L ρ) = F (I 145 j) (hp I L ρ) := h_la (by decide) rfl h (Nat.le_of_ble_eq_true rfl)
theorem sa_145 {x : Int32} (h : j < 12) : z_sa 20 145 (nI j) x f (hp I L ρ) = f (hp (u2 I 145 j x) L ρ) := h_sa (by decide) rfl h (Nat.le_of_ble_eq_true rfl)
theorem len_145 {F : Int32 → zM} : z_len 145 F (hp I L ρ) = F (nI 12) (hp I L ρ) := h_len (by decide) (by decide) (by decide)
theorem la_146 {F : Int32 → zM} (h : j < 12) : z_la 20 146 (nI j) F (hp I L ρ) = F (I 146 j) (hp I L ρ) := h_la (by decide) rfl h (Nat.le_of_ble_eq_true rfl)
theorem sa_146 {x : Int32} (h : j < 12) : z_sa 20 146 (nI j) x f (hp I L ρ) = f (hp (u2 I 146 j x) L ρ) := h_sa (by decide) rfl h (Nat.le_of_ble_eq_true rfl)
theorem len_146 {F : Int32 → zM} : z_len 146 F (hp I L ρ) = F (nI 12) (hp I L ρ) := h_len (by decide) (by decide) (by decide)
theorem la_147 {F : Int32 → zM} (h : j < 72) : z_la 20 147 (nI j) F (hp I L ρ) = F (I 147 j) (hp I L ρ) := h_la (by decide) rfl h (Nat.le_of_ble_eq_true rfl)
theorem sa_147 {x : Int32} (h : j < 72) : z_sa 20 147 (nI j) x f (hp I L ρ) = f (hp (u2 I 147 j x) L ρ) := h_sa (by decide) rfl h (Nat.le_of_ble_eq_true rfl)
theorem len_147 {F : Int32 → zM} : z_len 147 F (hp I L ρ) = F (nI 72) (hp I L ρ) := h_len (by decide) (by decide) (by decide)
theorem la_148 {F : Int32 → zM} (h : j < 72) : z_la 20 148 (nI j) F (hp I L ρ) = F (I 148 j) (hp I L ρ) := h_la (by decide) rfl h (Nat.le_of_ble_eq_true rfl)
theorem sa_148 {x : Int32} (h : j < 72) : z_sa 20 148 (nI j) x f (hp I L ρ) = f (hp (u2 I 148 j x) L ρ) := h_sa (by decide) rfl h (Nat.le_of_ble_eq_true rfl)
theorem len_148 {F : Int32 → zM} : z_len 148 F (hp I L ρ) = F (nI 72) (hp I L ρ) := h_len (by decide) (by decide) (by decide)
theorem gi_149 {F : Int32 → zM} : z_gi 8 k 149 F (hp I L ρ) = F (I 149 k) (hp I L ρ) := h_gi (by decide) rfl
theorem pi_149 {x : Int32} : z_pi 8 k 149 x f (hp I L ρ) = f (hp (u2 I 149 k x) L ρ) := h_pi (by decide) rfl
theorem rc_149 : z_rc 8 149 f (hp I L ρ) = f (hp I L ρ) := h_rc (by decide) rfl
theorem gr_149_2 {F : Nat → zM} : z_gr 8 2 149 F (hp I L ρ) = F (150) (hp I L ρ) := h_gr (by decide) rfl rfl
theorem gr_149_3 {F : Nat → zM} : z_gr 8 3 149 F (hp I L ρ) = F (151) (hp I L ρ) := h_gr (by decide) rfl rfl
theorem gr_149_4 {F : Nat → zM} : z_gr 8 4 149 F (hp I L ρ) = F (152) (hp I L ρ) := h_gr (by decide) rfl rfl
theorem gr_149_5 {F : Nat → zM} : z_gr 8 5 149 F (hp I L ρ) = F (153) (hp I L ρ) := h_gr (by decide) rfl rfl
theorem gr_149_6 {F : Nat → zM} : z_gr 8 6 149 F (hp I L ρ) = F (154) (hp I L ρ) := h_gr (by decide) rfl rfl
theorem gr_149_7 {F : Nat → zM} : z_gr 8 7 149 F (hp I L ρ) = F (155) (hp I L ρ) := h_gr (by decide) rfl rfl
theorem la_150 {F : Int32 → zM} (h : j < 12) : z_la 20 150 (nI j) F (hp I L ρ) = F (I 150 j) (hp I L ρ) := h_la (by decide) rfl h (Nat.le_of_ble_eq_true rfl)
theorem sa_150 {x : Int32} (h : j < 12) : z_sa 20 150 (nI j) x f (hp I L ρ) = f (hp (u2 I 150 j x) L ρ) := h_sa (by decide) rfl h (Nat.le_of_ble_eq_true rfl)
theorem len_150 {F : Int32 → zM} : z_len 150 F (hp I L ρ) = F (nI 12) (hp I L ρ) := h_len (by decide) (by decide) (by decide)
theorem la_151 {F : Int32 → zM} (h : j < 12) : z_la 20 151 (nI j) F (hp I L ρ) = F (I 151 j) (hp I L ρ) := h_la (by decide) rfl h (Nat.le_of_ble_eq_true rfl)
theorem sa_151 {x : Int32} (h : j < 12) : z_sa 20 151 (nI j) x f (hp I L ρ) = f (hp (u2 I 151 j x) L ρ) := h_sa (by decide) rfl h (Nat.le_of_ble_eq_true rfl)
theorem len_151 {F : Int32 → zM} : z_len 151 F (hp I L ρ) = F (nI 12) (hp I L ρ) := h_len (by decide) (by decide) (by decide)
theorem la_152 {F : Int32 → zM} (h : j < 12) : z_la 20 152 (nI j) F (hp I L ρ) = F (I 152 j) (hp I L ρ) := h_la (by decide) rfl h (Nat.le_of_ble_eq_true rfl)
theorem sa_152 {x : Int32} (h : j < 12) : z_sa 20 152 (nI j) x f (hp I L ρ) = f (hp (u2 I 152 j x) L ρ) := h_sa (by decide) rfl h (Nat.le_of_ble_eq_true rfl)
theorem len_152 {F : Int32 → zM} : z_len 152 F (hp I L ρ) = F (nI 12) (hp I L ρ) := h_len (by decide) (by decide) (by decide)
theorem la_153 {F : Int32 → zM} (h : j < 12) : z_la 20 153 (nI j) F (hp I L ρ) = F (I 153 j) (hp I L ρ) := h_la (by decide) rfl h (Nat.le_of_ble_eq_true rfl)
theorem sa_153 {x : Int32} (h : j < 12) : z_sa 20 153 (nI j) x f (hp I L ρ) = f (hp (u2 I 153 j x) L ρ) := h_sa (by decide) rfl h (Nat.le_of_ble_eq_true rfl)
theorem len_153 {F : Int32 → zM} : z_len 153 F (hp I L ρ) = F (nI 12) (hp I L ρ) := h_len (by decide) (by decide) (by decide)
theorem la_154 {F : Int32 → zM} (h : j < 72) : z_la 20 154 (nI j) F (hp I L ρ) = F (I 154 j) (hp I L ρ) := h_la (by decide) rfl h (Nat.le_of_ble_eq_true rfl)
theorem sa_154 {x : Int32} (h : j < 72) : z_sa 20 154 (nI j) x f (hp I L ρ) = f (hp (u2 I 154 j x) L ρ) := h_sa (by decide) rfl h (Nat.le_of_ble_eq_true rfl)
theorem len_154 {F : Int32 → zM} : z_len 154 F (hp I L ρ) = F (nI 72) (hp I L ρ) := h_len (by decide) (by decide) (by decide)
theorem la_155 {F : Int32 → zM} (h : j < 72) : z_la 20 155 (nI j) F (hp I L ρ) = F (I 155 j) (hp I L ρ) := h_la (by decide) rfl h (Nat.le_of_ble_eq_true rfl)
theorem sa_155 {x : Int32} (h : j < 72) : z_sa 20 155 (nI j) x f (hp I L ρ) = f (hp (u2 I 155 j x) L ρ) := h_sa (by decide) rfl h (Nat.le_of_ble_eq_true rfl)
theorem len_155 {F : Int32 → zM} : z_len 155 F (hp I L ρ) = F (nI 72) (hp I L ρ) := h_len (by decide) (by decide) (by decide)
theorem gi_156 {F : Int32 → zM} : z_gi 8 k 156 F (hp I L ρ) = F (I 156 k) (hp I L ρ) := h_gi (by decide) rfl
theorem pi_156 {x : Int32} : z_pi 8 k 156 x f (hp I L ρ) = f (hp (u2 I 156 k x) L ρ) := h_pi (by decide) rfl
theorem rc_156 : z_rc 8 156 f (hp I L ρ) = f (hp I L ρ) := h_rc (by decide) rfl
theorem gr_156_2 {F : Nat → zM} : z_gr 8 2 156 F (hp I L ρ) = F (157) (hp I L ρ) := h_gr (by decide) rfl rfl
theorem gr_156_3 {F : Nat → zM} : z_gr 8 3 156 F (hp I L ρ) = F (158) (hp I L ρ) := h_gr (by decide) rfl rfl
theorem gr_156_4 {F : Nat → zM} : z_gr 8 4 156 F (hp I L ρ) = F (159) (hp I L ρ) := h_gr (by decide) rfl rfl
theorem gr_156_5 {F : Nat → zM} : z_gr 8 5 156 F (hp I L ρ) = F (160) (hp I L ρ) := h_gr (by decide) rfl rfl
theorem gr_156_6 {F : Nat → zM} : z_gr 8 6 156 F (hp I L ρ) = F (161) (hp I L ρ) := h_gr (by decide) rfl rfl
theorem gr_156_7 {F : Nat → zM} : z_gr 8 7 156 F (hp I L ρ) = F (162) (hp I L ρ) := h_gr (by decide) rfl rfl
theorem la_157 {F : Int32 → zM} (h : j < 12) : z_la 20 157 (nI j) F (hp I L ρ) = F (I 157 j) (hp I L ρ) := h_la (by decide) rfl h (Nat.le_of_ble_eq_true rfl)
theorem sa_157 {x : Int32} (h : j < 12) : z_sa 20 157 (nI j) x f (hp I L ρ) = f (hp (u2 I 157 j x) L ρ) := h_sa (by decide) rfl h (Nat.le_of_ble_eq_true rfl)
theorem len_157 {F : Int32 → zM} : z_len 157 F (hp I L ρ) = F (nI 12) (hp I L ρ) := h_len (by decide) (by decide) (by decide)
theorem la_158 {F : Int32 → zM} (h : j < 12) : z_la 20 158 (nI j) F (hp I L ρ) = F (I 158 j) (hp I L ρ) := h_la (by decide) rfl h (Nat.le_of_ble_eq_true rfl)
theorem sa_158 {x : Int32} (h : j < 12) : z_sa 20 158 (nI j) x f (hp I L ρ) = f (hp (u2 I 158 j x) L ρ) := h_sa (by decide) rfl h (Nat.le_of_ble_eq_true rfl)
theorem len_158 {F : Int32 → zM} : z_len 158 F (hp I L ρ) = F (nI 12) (hp I L ρ) := h_len (by decide) (by decide) (by decide)
theorem la_159 {F : Int32 → zM} (h : j < 12) : z_la 20 159 (nI j) F (hp I L ρ) = F (I 159 j) (hp I L ρ) := h_la (by decide) rfl h (Nat.le_of_ble_eq_true rfl)
theorem sa_159 {x : Int32} (h : j < 12) : z_sa 20 159 (nI j) x f (hp I L ρ) = f (hp (u2 I 159 j x) L ρ) := h_sa (by decide) rfl h (Nat.le_of_ble_eq_true rfl)
theorem len_159 {F : Int32 → zM} : z_len 159 F (hp I L ρ) = F (nI 12) (hp I L ρ) := h_len (by decide) (by decide) (by decide)
theorem la_160 {F : Int32 → zM} (h : j < 12) : z_la 20 160 (nI j) F (hp I L ρ) = F (I 160 j) (hp I L ρ) := h_la (by decide) rfl h (Nat.le_of_ble_eq_true rfl)
theorem sa_160 {x : Int32} (h : j < 12) : z_sa 20 160 (nI j) x f (hp I L ρ) = f (hp (u2 I 160 j x) L ρ) := h_sa (by decide) rfl h (Nat.le_of_ble_eq_true rfl)
theorem len_160 {F : Int32 → zM} : z_len 160 F (hp I L ρ) = F (nI 12) (hp I L ρ) := h_len (by decide) (by decide) (by decide)
theorem la_161 {F : Int32 → zM} (h : j < 72) : z_la 20 161 (nI j) F (hp I L ρ) = F (I 161 j) (hp I L ρ) := h_la (by decide) rfl h (Nat.le_of_ble_eq_true rfl)
theorem sa_161 {x : Int32} (h : j < 72) : z_sa 20 161 (nI j) x f (hp I L ρ) = f (hp (u2 I 161 j x) L ρ) := h_sa (by decide) rfl h (Nat.le_of_ble_eq_true rfl)
theorem len_161 {F : Int32 → zM} : z_len 161 F (hp I L ρ) = F (nI 72) (hp I L ρ) := h_len (by decide) (by decide) (by decide)
theorem la_162 {F : Int32 → zM} (h : j < 72) : z_la 20 162 (nI j) F (hp I L ρ) = F (I 162 j) (hp I L ρ) := h_la (by decide) rfl h (Nat.le_of_ble_eq_true rfl)
theorem sa_162 {x : Int32} (h : j < 72) : z_sa 20 162 (nI j) x f (hp I L ρ) = f (hp (u2 I 162 j x) L ρ) := h_sa (by decide) rfl h (Nat.le_of_ble_eq_true rfl)
theorem len_162 {F : Int32 → zM} : z_len 162 F (hp I L ρ) = F (nI 72) (hp I L ρ) := h_len (by decide) (by decide) (by decide)
theorem gi_163 {F : Int32 → zM} : z_gi 8 k 163 F (hp I L ρ) = F (I 163 k) (hp I L ρ) := h_gi (by decide) rfl
theorem pi_163 {x : Int32} : z_pi 8 k 163 x f (hp I L ρ) = f (hp (u2 I 163 k x) L ρ) := h_pi (by decide) rfl
theorem rc_163 : z_rc 8 163 f (hp I L ρ) = f (hp I L ρ) := h_rc (by decide) rfl
theorem gr_163_2 {F : Nat → zM} : z_gr 8 2 163 F (hp I L ρ) = F (164) (hp I L ρ) := h_gr (by decide) rfl rfl
theorem gr_163_3 {F : Nat → zM} : z_gr 8 3 163 F (hp I L ρ) = F (165) (hp I L ρ) := h_gr (by decide) rfl rfl
theorem gr_163_4 {F : Nat → zM} : z_gr 8 4 163 F (hp I L ρ) = F (166) (hp I L ρ) := h_gr (by decide) rfl rfl
theorem gr_163_5 {F : Nat → zM} : z_gr 8 5 163 F (hp I L ρ) = F (167) (hp I L ρ) := h_gr (by decide) rfl rfl
theorem gr_163_6 {F : Nat → zM} : z_gr 8 6 163 F (hp I L ρ) = F (168) (hp I L ρ) := h_gr (by decide) rfl rfl
theorem gr_163_7 {F : Nat → zM} : z_gr 8 7 163 F (hp I L ρ) = F (169) (hp I L ρ) := h_gr (by decide) rfl rfl
theorem la_164 {F : Int32 → zM} (h : j < 12) : z_la 20 164 (nI j) F (hp I L ρ) = F (I 164 j) (hp I L ρ) := h_la (by decide) rfl h (Nat.le_of_ble_eq_true rfl)
theorem sa_164 {x : Int32} (h : j < 12) : z_sa 20 164 (nI j) x f (hp I L ρ) = f (hp (u2 I 164 j x) L ρ) := h_sa (by decide) rfl h (Nat.le_of_ble_eq_true rfl)
theorem len_164 {F : Int32 → zM} : z_len 164 F (hp I L ρ) = F (nI 12) (hp I L ρ) := h_len (by decide) (by decide) (by decide)
theorem la_165 {F : Int32 → zM} (h : j < 12) : z_la 20 165 (nI j) F (hp I L ρ) = F (I 165 j) (hp I L ρ) := h_la (by decide) rfl h (Nat.le_of_ble_eq_true rfl)
theorem sa_165 {x : Int32} (h : j < 12) : z_sa 20 165 (nI j) x f (hp I L ρ) = f (hp (u2 I 165 j x) L ρ) := h_sa (by decide) rfl h (Nat.le_of_ble_eq_true rfl)
theorem len_165 {F : Int32 → zM} : z_len 165 F (hp I L ρ) = F (nI 12) (hp I L ρ) := h_len (by decide) (by decide) (by decide)
theorem la_166 {F : Int32 → zM} (h : j < 12) : z_la 20 166 (nI j) F (hp I L ρ) = F (I 166 j) (hp I L ρ) := h_la (by decide) rfl h (Nat.le_of_ble_eq_true rfl)
theorem sa_166 {x : Int32} (h : j < 12) : z_sa 20 166 (nI j) x f (hp I L ρ) = f (hp (u2 I 166 j x) L ρ) := h_sa (by decide) rfl h (Nat.le_of_ble_eq_true rfl)
theorem len_166 {F : Int32 → zM} : z_len 166 F (hp I L ρ) = F (nI 12) (hp I L ρ) := h_len (by decide) (by decide) (by decide)
theorem la_167 {F : Int32 → zM} (h : j < 12) : z_la 20 167 (nI j) F (hp I L ρ) = F (I 167 j) (hp I L ρ) := h_la (by decide) rfl h (Nat.le_of_ble_eq_true rfl)
theorem sa_167 {x : Int32} (h : j < 12) : z_sa 20 167 (nI j) x f (hp I L ρ) = f (hp (u2 I 167 j x) L ρ) := h_sa (by decide) rfl h (Nat.le_of_ble_eq_true rfl)
theorem len_167 {F : Int32 → zM} : z_len 167 F (hp I L ρ) = F (nI 12) (hp I L ρ) := h_len (by decide) (by decide) (by decide)
theorem la_168 {F : Int32 → zM} (h : j < 72) : z_la 20 168 (nI j) F (hp I L ρ) = F (I 168 j) (hp I L ρ) := h_la (by decide) rfl h (Nat.le_of_ble_eq_true rfl)
theorem sa_168 {x : Int32} (h : j < 72) : z_sa 20 168 (nI j) x f (hp I L ρ) = f (hp (u2 I 168 j x) L ρ) := h_sa (by decide) rfl h (Nat.le_of_ble_eq_true rfl)
theorem len_168 {F : Int32 → zM} : z_len 168 F (hp I L ρ) = F (nI 72) (hp I L ρ) := h_len (by decide) (by decide) (by decide)
theorem la_169 {F : Int32 → zM} (h : j < 72) : z_la 20 169 (nI j) F (hp I L ρ) = F (I 169 j) (hp I L ρ) := h_la (by decide) rfl h (Nat.le_of_ble_eq_true rfl)
theorem sa_169 {x : Int32} (h : j < 72) : z_sa 20 169 (nI j) x f (hp I L ρ) = f (hp (u2 I 169 j x) L ρ) := h_sa (by decide) rfl h (Nat.le_of_ble_eq_true rfl)
theorem len_169 {F : Int32 → zM} : z_len 169 F (hp I L ρ) = F (nI 72) (hp I L ρ) := h_len (by decide) (by decide) (by decide)
theorem gi_170 {F : Int32 → zM} : z_gi 8 k 170 F (hp I L ρ) = F (I 170 k) (hp I L ρ) := h_gi (by decide) rfl
theorem pi_170 {x : Int32} : z_pi 8 k 170 x f (hp I L ρ) = f (hp (u2 I 170 k x) L ρ) := h_pi (by decide) rfl
theorem rc_170 : z_rc 8 170 f (hp I L ρ) = f (hp I L ρ) := h_rc (by decide) rfl
theorem gr_170_2 {F : Nat → zM} : z_gr 8 2 170 F (hp I L ρ) = F (171) (hp I L ρ) := h_gr (by decide) rfl rfl
theorem gr_170_3 {F : Nat → zM} : z_gr 8 3 170 F (hp I L ρ) = F (172) (hp I L ρ) := h_gr (by decide) rfl rfl
theorem gr_170_4 {F : Nat → zM} : z_gr 8 4 170 F (hp I L ρ) = F (173) (hp I L ρ) := h_gr (by decide) rfl rfl
theorem gr_170_5 {F : Nat → zM} : z_gr 8 5 170 F (hp I L ρ) = F (174) (hp I L ρ) := h_gr (by decide) rfl rfl
theorem gr_170_6 {F : Nat → zM} : z_gr 8 6 170 F (hp I L ρ) = F (175) (hp I L ρ) := h_gr (by decide) rfl rfl
theorem gr_170_7 {F : Nat → zM} : z_gr 8 7 170 F (hp I L ρ) = F (176) (hp I L ρ) := h_gr (by decide) rfl rfl
theorem la_171 {F : Int32 → zM} (h : j < 12) : z_la 20 171 (nI j) F (hp I L ρ) = F (I 171 j) (hp I L ρ) := h_la (by decide) rfl h (Nat.le_of_ble_eq_true rfl)
theorem sa_171 {x : Int32} (h : j < 12) : z_sa 20 171 (nI j) x f (hp I L ρ) = f (hp (u2 I 171 j x) L ρ) := h_sa (by decide) rfl h (Nat.le_of_ble_eq_true rfl)
theorem len_171 {F : Int32 → zM} : z_len 171 F (hp I L ρ) = F (nI 12) (hp I L ρ) := h_len (by decide) (by decide) (by decide)
theorem la_172 {F : Int32 → zM} (h : j < 12) : z_la 20 172 (nI j) F (hp I L ρ) = F (I 172 j) (hp I L ρ) := h_la (by decide) rfl h (Nat.le_of_ble_eq_true rfl)
theorem sa_172 {x : Int32} (h : j < 12) : z_sa 20 172 (nI j) x f (hp I L ρ) = f (hp (u2 I 172 j x) L ρ) := h_sa (by decide) rfl h (Nat.le_of_ble_eq_true rfl)
theorem len_172 {F : Int32 → zM} : z_len 172 F (hp I L ρ) = F (nI 12) (hp I L ρ) := h_len (by decide) (by decide) (by decide)
theorem la_173 {F : Int32 → zM} (h : j < 12) : z_la 20 173 (nI j) F (hp I L ρ) = F (I 173 j) (hp I L ρ) := h_la (by decide) rfl h (Nat.le_of_ble_eq_true rfl)
theorem sa_173 {x : Int32} (h : j < 12) : z_sa 20 173 (nI j) x f (hp I L ρ) = f (hp (u2 I 173 j x) L ρ) := h_sa (by decide) rfl h (Nat.le_of_ble_eq_true rfl)
theorem len_173 {F : Int32 → zM} : z_len 173 F (hp I L ρ) = F (nI 12) (hp I L ρ) := h_len (by decide) (by decide) (by decide)
theorem la_174 {F : Int32 → zM} (h : j < 12) : z_la 20 174 (nI j) F (hp I L ρ) = F (I 174 j) (hp I L ρ) := h_la (by decide) rfl h (Nat.le_of_ble_eq_true rfl)
theorem sa_174 {x : Int32} (h : j < 12) : z_sa 20 174 (nI j) x f (hp I L ρ) = f (hp (u2 I 174 j x) L ρ) := h_sa (by decide) rfl h (Nat.le_of_ble_eq_true rfl)
theorem len_174 {F : Int32 → zM} : z_len 174 F (hp I L ρ) = F (nI 12) (hp I L ρ) := h_len (by decide) (by decide) (by decide)
theorem la_175 {F : Int32 → zM} (h : j < 72) : z_la 20 175 (nI j) F (hp I L ρ) = F (I 175 j) (hp I L ρ) := h_la (by decide) rfl h (Nat.le_of_ble_eq_true rfl)
theorem sa_175 {x : Int32} (h : j < 72) : z_sa 20 175 (nI j) x f (hp I L ρ) = f (hp (u2 I 175 j x) L ρ) := h_sa (by decide) rfl h (Nat.le_of_ble_eq_true rfl)
theorem len_175 {F : Int32 → zM} : z_len 175 F (hp I L ρ) = F (nI 72) (hp I L ρ) := h_len (by decide) (by decide) (by decide)
theorem la_176 {F : Int32 → zM} (h : j < 72) : z_la 20 176 (nI j) F (hp I L ρ) = F (I 176 j) (hp I L ρ) := h_la (by decide) rfl h (Nat.le_of_ble_eq_true rfl)
theorem sa_176 {x : Int32} (h : j < 72) : z_sa 20 176 (nI j) x f (hp I L ρ) = f (hp (u2 I 176 j x) L ρ) := h_sa (by decide) rfl h (Nat.le_of_ble_eq_true rfl)
theorem len_176 {F : Int32 → zM} : z_len 176 F (hp I L ρ) = F (nI 72) (hp I L ρ) := h_len (by decide) (by decide) (by decide)
theorem gi_177 {F : Int32 → zM} : z_gi 8 k 177 F (hp I L ρ) = F (I 177 k) (hp I L ρ) := h_gi (by decide) rfl
theorem pi_177 {x : Int32} : z_pi 8 k 177 x f (hp I L ρ) = f (hp (u2 I 177 k x) L ρ) := h_pi (by decide) rfl
theorem rc_177 : z_rc 8 177 f (hp I L ρ) = f (hp I L ρ) := h_rc (by decide) rfl
theorem gr_177_2 {F : Nat → zM} : z_gr 8 2 177 F (hp I L ρ) = F (178) (hp I L ρ) := h_gr (by decide) rfl rfl
theorem gr_177_3 {F : Nat → zM} : z_gr 8 3 177 F (hp I L ρ) = F (179) (hp I L ρ) := h_gr (by decide) rfl rfl
theorem gr_177_4 {F : Nat → zM} : z_gr 8 4 177 F (hp I L ρ) = F (180) (hp I L ρ) := h_gr (by decide) rfl rfl
theorem gr_177_5 {F : Nat → zM} : z_gr 8 5 177 F (hp I L ρ) = F (181) (hp I L ρ) := h_gr (by decide) rfl rfl
theorem gr_177_6 {F : Nat → zM} : z_gr 8 6 177 F (hp I L ρ) = F (182) (hp I L ρ) := h_gr (by decide) rfl rfl
theorem gr_177_7 {F : Nat → zM} : z_gr 8 7 177 F (hp I L ρ) = F (183) (hp I L ρ) := h_gr (by decide) rfl rfl
theorem la_178 {F : Int32 → zM} (h : j < 12) : z_la 20 178 (nI j) F (hp I L ρ) = F (I 178 j) (hp I L ρ) := h_la (by decide) rfl h (Nat.le_of_ble_eq_true rfl)
theorem sa_178 {x : Int32} (h : j < 12) : z_sa 20 178 (nI j) x f (hp I L ρ) = f (hp (u2 I 178 j x) L ρ) := h_sa (by decide) rfl h (Nat.le_of_ble_eq_true rfl)
theorem len_178 {F : Int32 → zM} : z_len 178 F (hp I L ρ) = F (nI 12) (hp I L ρ) := h_len (by decide) (by decide) (by decide)
theorem la_179 {F : Int32 → zM} (h : j < 12) : z_la 20 179 (nI j) F (hp I L ρ) = F (I 179 j) (hp I L ρ) := h_la (by decide) rfl h (Nat.le_of_ble_eq_true rfl)
theorem sa_179 {x : Int32} (h : j < 12) : z_sa 20 179 (nI j) x f (hp I L ρ) = f (hp (u2 I 179 j x) L ρ) := h_sa (by decide) rfl h (Nat.le_of_ble_eq_true rfl)
theorem len_179 {F : Int32 → zM} : z_len 179 F (hp I L ρ) = F (nI 12) (hp I L ρ) := h_len (by decide) (by decide) (by decide)
theorem la_180 {F : Int32 → zM} (h : j < 12) : z_la 20 180 (nI j) F (hp I L ρ) = F (I 180 j) (hp I L ρ) := h_la (by decide) rfl h (Nat.le_of_ble_eq_true rfl)
theorem sa_180 {x : Int32} (h : j < 12) : z_sa 20 180 (nI j) x f (hp I L ρ) = f (hp (u2 I 180 j x) L ρ) := h_sa (by decide) rfl h (Nat.le_of_ble_eq_true rfl)
theorem len_180 {F : Int32 → zM} : z_len 180 F (hp I L ρ) = F (nI 12) (hp I L ρ) := h_len (by decide) (by decide) (by decide)
theorem la_181 {F : Int32 → zM} (h : j < 12) : z_la 20 181 (nI j) F (hp I L ρ) = F (I 181 j) (hp I L ρ) := h_la (by decide) rfl h (Nat.le_of_ble_eq_true rfl)
theorem sa_181 {x : Int32} (h : j < 12) : z_sa 20 181 (nI j) x f (hp I L ρ) = f (hp (u2 I 181 j x) L ρ) := h_sa (by decide) rfl h (Nat.le_of_ble_eq_true rfl)
theorem len_181 {F : Int32 → zM} : z_len 181 F (hp I L ρ) = F (nI 12) (hp I L ρ) := h_len (by decide) (by decide) (by decide)
theorem la_182 {F : Int32 → zM} (h : j < 72) : z_la 20 182 (nI j) F (hp I L ρ) = F (I 182 j) (hp I L ρ) := h_la (by decide) rfl h (Nat.le_of_ble_eq_true rfl)
theorem sa_182 {x : Int32} (h : j < 72) : z_sa 20 182 (nI j) x f (hp I L ρ) = f (hp (u2 I 182 j x) L ρ) := h_sa (by decide) rfl h (Nat.le_of_ble_eq_true rfl)
theorem len_182 {F : Int32 → zM} : z_len 182 F (hp I L ρ) = F (nI 72) (hp I L ρ) := h_len (by decide) (by decide) (by decide)
theorem la_183 {F : Int32 → zM} (h : j < 72) : z_la 20 183 (nI j) F (hp I L ρ) = F (I 183 j) (hp I L ρ) := h_la (by decide) rfl h (Nat.le_of_ble_eq_true rfl)
theorem sa_183 {x : Int32} (h : j < 72) : z_sa 20 183 (nI j) x f (hp I L ρ) = f (hp (u2 I 183 j x) L ρ) := h_sa (by decide) rfl h (Nat.le_of_ble_eq_true rfl)
theorem len_183 {F : Int32 → zM} : z_len 183 F (hp I L ρ) = F (nI 72) (hp I L ρ) := h_len (by decide) (by decide) (by decide)
theorem gi_184 {F : Int32 → zM} : z_gi 8 k 184 F (hp I L ρ) = F (I 184 k) (hp I L ρ) := h_gi (by decide) rfl
theorem pi_184 {x : Int32} : z_pi 8 k 184 x f (hp I L ρ) = f (hp (u2 I 184 k x) L ρ) := h_pi (by decide) rfl
theorem rc_184 : z_rc 8 184 f (hp I L ρ) = f (hp I L ρ) := h_rc (by decide) rfl
theorem gr_184_2 {F : Nat → zM} : z_gr 8 2 184 F (hp I L ρ) = F (185) (hp I L ρ) := h_gr (by decide) rfl rfl
theorem gr_184_3 {F : Nat → zM} : z_gr 8 3 184 F (hp I L ρ) = F (186) (hp I L ρ) := h_gr (by decide) rfl rfl
theorem gr_184_4 {F : Nat → zM} : z_gr 8 4 184 F (hp I L ρ) = F (187) (hp I L ρ) := h_gr (by decide) rfl rfl
theorem gr_184_5 {F : Nat → zM} : z_gr 8 5 184 F (hp I L ρ) = F (188) (hp I L ρ) := h_gr (by decide) rfl rfl
theorem gr_184_6 {F : Nat → zM} : z_gr 8 6 184 F (hp I L ρ) = F (189) (hp I L ρ) := h_gr (by decide) rfl rfl
theorem gr_184_7 {F : Nat → zM} : z_gr 8 7 184 F (hp I L ρ) = F (190) (hp I L ρ) := h_gr (by decide) rfl rfl
theorem la_185 {F : Int32 → zM} (h : j < 12) : z_la 20 185 (nI j) F (hp I L ρ) = F (I 185 j) (hp I L ρ) := h_la (by decide) rfl h (Nat.le_of_ble_eq_true rfl)
theorem sa_185 {x : Int32} (h : j < 12) : z_sa 20 185 (nI j) x f (hp I L ρ) = f (hp (u2 I 185 j x) L ρ) := h_sa (by decide) rfl h (Nat.le_of_ble_eq_true rfl)
theorem len_185 {F : Int32 → zM} : z_len 185 F (hp I L ρ) = F (nI 12) (hp I L ρ) := h_len (by decide) (by decide) (by decide)
theorem la_186 {F : Int32 → zM} (h : j < 12) : z_la 20 186 (nI j) F (hp I L ρ) = F (I 186 j) (hp I L ρ) := h_la (by decide) rfl h (Nat.le_of_ble_eq_true rfl)
theorem sa_186 {x : Int32} (h : j < 12) : z_sa 20 186 (nI j) x f (hp I L ρ) = f (hp (u2 I 186 j x) L ρ) := h_sa (by decide) rfl h (Nat.le_of_ble_eq_true rfl)
theorem len_186 {F : Int32 → zM} : z_len 186 F (hp I L ρ) = F (nI 12) (hp I L ρ) := h_len (by decide) (by decide) (by decide)
theorem la_187 {F : Int32 → zM} (h : j < 12) : z_la 20 187 (nI j) F (hp I L ρ) = F (I 187 j) (hp I L ρ) := h_la (by decide) rfl h (Nat.le_of_ble_eq_true rfl)
theorem sa_187 {x : Int32} (h : j < 12) : z_sa 20 187 (nI j) x f (hp I L ρ) = f (hp (u2 I 187 j x) L ρ) := h_sa (by decide) rfl h (Nat.le_of_ble_eq_true rfl)
theorem len_187 {F : Int32 → zM} : z_len 187 F (hp I L ρ) = F (nI 12) (hp I L ρ) := h_len (by decide) (by decide) (by decide)
theorem la_188 {F : Int32 → zM} (h : j < 12) : z_la 20 188 (nI j) F (hp I L ρ) = F (I 188 j) (hp I L ρ) := h_la (by decide) rfl h (Nat.le_of_ble_eq_true rfl)
theorem sa_188 {x : Int32} (h : j < 12) : z_sa 20 188 (nI j) x f (hp I L ρ) = f (hp (u2 I 188 j x) L ρ) := h_sa (by decide) rfl h (Nat.le_of_ble_eq_true rfl)
theorem len_188 {F : Int32 → zM} : z_len 188 F (hp I L ρ) = F (nI 12) (hp I L ρ) := h_len (by decide) (by decide) (by decide)
theorem la_189 {F : Int32 → zM} (h : j < 72) : z_la 20 189 (nI j) F (hp I L ρ) = F (I 189 j) (hp I L ρ) := h_la (by decide) rfl h (Nat.le_of_ble_eq_true rfl)
theorem sa_189 {x : Int32} (h : j < 72) : z_sa 20 189 (nI j) x f (hp I L ρ) = f (hp (u2 I 189 j x) L ρ) := h_sa (by decide) rfl h (Nat.le_of_ble_eq_true rfl)
theorem len_189 {F : Int32 → zM} : z_len 189 F (hp I L ρ) = F (nI 72) (hp I L ρ) := h_len (by decide) (by decide) (by decide)
theorem la_190 {F : Int32 → zM} (h : j < 72) : z_la 20 190 (nI j) F (hp I L ρ) = F (I 190 j) (hp I L ρ) := h_la (by decide) rfl h (Nat.le_of_ble_eq_true rfl)
theorem sa_190 {x : Int32} (h : j < 72) : z_sa 20 190 (nI j) x f (hp I L ρ) = f (hp (u2 I 190 j x) L ρ) := h_sa (by decide) rfl h (Nat.le_of_ble_eq_true rfl)
theorem len_190 {F : Int32 → zM} : z_len 190 F (hp I L ρ) = F (nI 72) (hp I L ρ) := h_len (by decide) (by decide) (by decide)
theorem gi_191 {F : Int32 → zM} : z_gi 8 k 191 F (hp I L ρ) = F (I 191 k) (hp I L ρ) := h_gi (by decide) rfl
theorem pi_191 {x : Int32} : z_pi 8 k 191 x f (hp I L ρ) = f (hp (u2 I 191 k x) L ρ) := h_pi (by decide) rfl
theorem rc_191 : z_rc 8 191 f (hp I L ρ) = f (hp I L ρ) := h_rc (by decide) rfl
theorem gr_191_2 {F : Nat → zM} : z_gr 8 2 191 F (hp I L ρ) = F (192) (hp I L ρ) := h_gr (by decide) rfl rfl
theorem gr_191_3 {F : Nat → zM} : z_gr 8 3 191 F (hp I L ρ) = F (193) (hp I L ρ) := h_gr (by decide) rfl rfl
theorem gr_191_4 {F : Nat → zM} : z_gr 8 4 191 F (hp I L ρ) = F (194) (hp I L ρ) := h_gr (by decide) rfl rfl
theorem gr_191_5 {F : Nat → zM} : z_gr 8 5 191 F (hp I L ρ) = F (195) (hp I L ρ) := h_gr (by decide) rfl rfl
theorem gr_191_6 {F : Nat → zM} : z_gr 8 6 191 F (hp I L ρ) = F (196) (hp I L ρ) := h_gr (by decide) rfl rfl
theorem gr_191_7 {F : Nat → zM} : z_gr 8 7 191 F (hp I L ρ) = F (197) (hp I L ρ) := h_gr (by decide) rfl rfl
theorem la_192 {F : Int32 → zM} (h : j < 12) : z_la 20 192 (nI j) F (hp I L ρ) = F (I 192 j) (hp I L ρ) := h_la (by decide) rfl h (Nat.le_of_ble_eq_true rfl)
theorem sa_192 {x : Int32} (h : j < 12) : z_sa 20 192 (nI j) x f (hp I L ρ) = f (hp (u2 I 192 j x) L ρ) := h_sa (by decide) rfl h (Nat.le_of_ble_eq_true rfl)
theorem len_192 {F : Int32 → zM} : z_len 192 F (hp I L ρ) = F (nI 12) (hp I L ρ) := h_len (by decide) (by decide) (by decide)
theorem la_193 {F : Int32 → zM} (h : j < 12) : z_la 20 193 (nI j) F (hp I L ρ) = F (I 193 j) (hp I L ρ) := h_la (by decide) rfl h (Nat.le_of_ble_eq_true rfl)
theorem sa_193 {x : Int32} (h : j < 12) : z_sa 20 193 (nI j) x f (hp I L ρ) = f (hp (u2 I 193 j x) L ρ) := h_sa (by decide) rfl h (Nat.le_of_ble_eq_true rfl)
theorem len_193 {F : Int32 → zM} : z_len 193 F (hp I L ρ) = F (nI 12) (hp I L ρ) := h_len (by decide) (by decide) (by decide)
theorem la_194 {F : Int32 → zM} (h : j < 12) : z_la 20 194 (nI j) F (hp I L ρ) = F (I 194 j) (hp I L ρ) := h_la (by decide) rfl h (Nat.le_of_ble_eq_true rfl)
theorem sa_194 {x : Int32} (h : j < 12) : z_sa 20 194 (nI j) x f (hp I L ρ) = f (hp (u2 I 194 j x) L ρ) := h_sa (by decide) rfl h (Nat.le_of_ble_eq_true rfl)
theorem len_194 {F : Int32 → zM} : z_len 194 F (hp I L ρ) = F (nI 12) (hp I L ρ) := h_len (by decide) (by decide) (by decide)
theorem la_195 {F : Int32 → zM} (h : j < 12) : z_la 20 195 (nI j) F (hp I L ρ) = F (I 195 j) (hp I L ρ) := h_la (by decide) rfl h (Nat.le_of_ble_eq_true rfl)
theorem sa_195 {x : Int32} (h : j < 12) : z_sa 20 195 (nI j) x f (hp I L ρ) = f (hp (u2 I 195 j x) L ρ) := h_sa (by decide) rfl h (Nat.le_of_ble_eq_true rfl)
theorem len_195 {F : Int32 → zM} : z_len 195 F (hp I L ρ) = F (nI 12) (hp I L ρ) := h_len (by decide) (by decide) (by decide)
theorem la_196 {F : Int32 → zM} (h : j < 72) : z_la 20 196 (nI j) F (hp I L ρ) = F (I 196 j) (hp I L ρ) := h_la (by decide) rfl h (Nat.le_of_ble_eq_true rfl)
theorem sa_196 {x : Int32} (h : j < 72) : z_sa 20 196 (nI j) x f (hp I L ρ) = f (hp (u2 I 196 j x) L ρ) := h_sa (by decide) rfl h (Nat.le_of_ble_eq_true rfl)
theorem len_196 {F : Int32 → zM} : z_len 196 F (hp I L ρ) = F (nI 72) (hp I L ρ) := h_len (by decide) (by decide) (by decide)
theorem la_197 {F : Int32 → zM} (h : j < 72) : z_la 20 197 (nI j) F (hp I L ρ) = F (I 197 j) (hp I L ρ) := h_la (by decide) rfl h (Nat.le_of_ble_eq_true rfl)
theorem sa_197 {x : Int32} (h : j < 72) : z_sa 20 197 (nI j) x f (hp I L ρ) = f (hp (u2 I 197 j x) L ρ) := h_sa (by decide) rfl h (Nat.le_of_ble_eq_true rfl)
theorem len_197 {F : Int32 → zM} : z_len 197 F (hp I L ρ) = F (nI 72) (hp I L ρ) := h_len (by decide) (by decide) (by decide)
theorem gi_198 {F : Int32 → zM} : z_gi 8 k 198 F (hp I L ρ) = F (I 198 k) (hp I L ρ) := h_gi (by decide) rfl
theorem pi_198 {x : Int32} : z_pi 8 k 198 x f (hp I L ρ) = f (hp (u2 I 198 k x) L ρ) := h_pi (by decide) rfl
theorem rc_198 : z_rc 8 198 f (hp I L ρ) = f (hp I L ρ) := h_rc (by decide) rfl
theorem gr_198_2 {F : Nat → zM} : z_gr 8 2 198 F (hp I L ρ) = F (199) (hp I L ρ) := h_gr (by decide) rfl rfl
theorem gr_198_3 {F : Nat → zM} : z_gr 8 3 198 F (hp I L ρ) = F (200) (hp I L ρ) := h_gr (by decide) rfl rfl
theorem gr_198_4 {F : Nat → zM} : z_gr 8 4 198 F (hp I L ρ) = F (201) (hp I L ρ) := h_gr (by decide) rfl rfl
theorem gr_198_5 {F : Nat → zM} : z_gr 8 5 198 F (hp I L ρ) = F (202) (hp I L ρ) := h_gr (by decide) rfl rfl
theorem gr_198_6 {F : Nat → zM} : z_gr 8 6 198 F (hp I L ρ) = F (203) (hp I L ρ) := h_gr (by decide) rfl rfl
theorem gr_198_7 {F : Nat → zM} : z_gr 8 7 198 F (hp I L ρ) = F (204) (hp I L ρ) := h_gr (by decide) rfl rfl
theorem la_199 {F : Int32 → zM} (h : j < 12) : z_la 20 199 (nI j) F (hp I L ρ) = F (I 199 j) (hp I L ρ) := h_la (by decide) rfl h (Nat.le_of_ble_eq_true rfl)
theorem sa_199 {x : Int32} (h : j < 12) : z_sa 20 199 (nI j) x f (hp I L ρ) = f (hp (u2 I 199 j x) L ρ) := h_sa (by decide) rfl h (Nat.le_of_ble_eq_true rfl)
theorem len_199 {F : Int32 → zM} : z_len 199 F (hp I L ρ) = F (nI 12) (hp I L ρ) := h_len (by decide) (by decide) (by decide)
theorem la_200 {F : Int32 → zM} (h : j < 12) : z_la 20 200 (nI j) F (hp I L ρ) = F (I 200 j) (hp I L ρ) := h_la (by decide) rfl h (Nat.le_of_ble_eq_true rfl)
theorem sa_200 {x : Int32} (h : j < 12) : z_sa 20 200 (nI j) x f (hp I L ρ) = f (hp (u2 I 200 j x) L ρ) := h_sa (by decide) rfl h (Nat.le_of_ble_eq_true rfl)
theorem len_200 {F : Int32 → zM} : z_len 200 F (hp I L ρ) = F (nI 12) (hp I L ρ) := h_len (by decide) (by decide) (by decide)
theorem la_201 {F : Int32 → zM} (h : j < 12) : z_la 20 201 (nI j) F (hp I L ρ) = F (I 201 j) (hp I L ρ) := h_la (by decide) rfl h (Nat.le_of_ble_eq_true rfl)
theorem sa_201 {x : Int32} (h : j < 12) : z_sa 20 201 (nI j) x f (hp I L ρ) = f (hp (u2 I 201 j x) L ρ) := h_sa (by decide) rfl h (Nat.le_of_ble_eq_true rfl)
theorem len_201 {F : Int32 → zM} : z_len 201 F (hp I L ρ) = F (nI 12) (hp I L ρ) := h_len (by decide) (by decide) (by decide)
theorem la_202 {F : Int32 → zM} (h : j < 12) : z_la 20 202 (nI j) F (hp I L ρ) = F (I 202 j) (hp I L ρ) := h_la (by decide) rfl h (Nat.le_of_ble_eq_true rfl)
theorem sa_202 {x : Int32} (h : j < 12) : z_sa 20 202 (nI j) x f (hp I L ρ) = f (hp (u2 I 202 j x) L ρ) := h_sa (by decide) rfl h (Nat.le_of_ble_eq_true rfl)
theorem len_202 {F : Int32 → zM} : z_len 202 F (hp I L ρ) = F (nI 12) (hp I L ρ) := h_len (by decide) (by decide) (by decide)
theorem la_203 {F : Int32 → zM} (h : j < 72) : z_la 20 203 (nI j) F (hp I L ρ) = F (I 203 j) (hp I L ρ) := h_la (by decide) rfl h (Nat.le_of_ble_eq_true rfl)
theorem sa_203 {x : Int32} (h : j < 72) : z_sa 20 203 (nI j) x f (hp I L ρ) = f (hp (u2 I 203 j x) L ρ) := h_sa (by decide) rfl h (Nat.le_of_ble_eq_true rfl)
theorem len_203 {F : Int32 → zM} : z_len 203 F (hp I L ρ) = F (nI 72) (hp I L ρ) := h_len (by decide) (by decide) (by decide)
theorem la_204 {F : Int32 → zM} (h : j < 72) : z_la 20 204 (nI j) F (hp I L ρ) = F (I 204 j) (hp I L ρ) := h_la (by decide) rfl h (Nat.le_of_ble_eq_true rfl)
theorem sa_204 {x : Int32} (h : j < 72) : z_sa 20 204 (nI j) x f (hp I L ρ) = f (hp (u2 I 204 j x) L ρ) := h_sa (by decide) rfl h (Nat.le_of_ble_eq_true rfl)
theorem len_204 {F : Int32 → zM} : z_len 204 F (hp I L ρ) = F (nI 72) (hp I L ρ) := h_len (by decide) (by decide) (by decide)
theorem gi_205 {F : Int32 → zM} : z_gi 8 k 205 F (hp I L ρ) = F (I 205 k) (hp I L ρ) := h_gi (by decide) rfl
theorem pi_205 {x : Int32} : z_pi 8 k 205 x f (hp I L ρ) = f (hp (u2 I 205 k x) L ρ) := h_pi (by decide) rfl
theorem rc_205 : z_rc 8 205 f (hp I L ρ) = f (hp I L ρ) := h_rc (by decide) rfl
theorem gr_205_2 {F : Nat → zM} : z_gr 8 2 205 F (hp I L ρ) = F (206) (hp I L ρ) := h_gr (by decide) rfl rfl
theorem gr_205_3 {F : Nat → zM} : z_gr 8 3 205 F (hp I L ρ) = F (207) (hp I L ρ) := h_gr (by decide) rfl rfl
theorem gr_205_4 {F : Nat → zM} : z_gr 8 4 205 F (hp I L ρ) = F (208) (hp I L ρ) := h_gr (by decide) rfl rfl
theorem gr_205_5 {F : Nat → zM} : z_gr 8 5 205 F (hp I L ρ) = F (209) (hp I L ρ) := h_gr (by decide) rfl rfl
theorem gr_205_6 {F : Nat → zM} : z_gr 8 6 205 F (hp I L ρ) = F (210) (hp I L ρ) := h_gr (by decide) rfl rfl
theorem gr_205_7 {F : Nat → zM} : z_gr 8 7 205 F (hp I L ρ) = F (211) (hp I L ρ) := h_gr (by decide) rfl rfl
theorem la_206 {F : Int32 → zM} (h : j < 12) : z_la 20 206 (nI j) F (hp I L ρ) = F (I 206 j) (hp I L ρ) := h_la (by decide) rfl h (Nat.le_of_ble_eq_true rfl)
theorem sa_206 {x : Int32} (h : j < 12) : z_sa 20 206 (nI j) x f (hp I L ρ) = f (hp (u2 I 206 j x) L ρ) := h_sa (by decide) rfl h (Nat.le_of_ble_eq_true rfl)
theorem len_206 {F : Int32 → zM} : z_len 206 F (hp I L ρ) = F (nI 12) (hp I L ρ) := h_len (by decide) (by decide) (by decide)
theorem la_207 {F : Int32 → zM} (h : j < 12) : z_la 20 207 (nI j) F (hp I L ρ) = F (I 207 j) (hp I L ρ) := h_la (by decide) rfl h (Nat.le_of_ble_eq_true rfl)
theorem sa_207 {x : Int32} (h : j < 12) : z_sa 20 207 (nI j) x f (hp I L ρ) = f (hp (u2 I 207 j x) L ρ) := h_sa (by decide) rfl h (Nat.le_of_ble_eq_true rfl)
theorem len_207 {F : Int32 → zM} : z_len 207 F (hp I L ρ) = F (nI 12) (hp I L ρ) := h_len (by decide) (by decide) (by decide)
theorem la_208 {F : Int32 → zM} (h : j < 12) : z_la 20 208 (nI j) F (hp I L ρ) = F (I 208 j) (hp I L ρ) := h_la (by decide) rfl h (Nat.le_of_ble_eq_true rfl)
theorem sa_208 {x : Int32} (h : j < 12) : z_sa 20 208 (nI j) x f (hp I L ρ) = f (hp (u2 I 208 j x) L ρ) := h_sa (by decide) rfl h (Nat.le_of_ble_eq_true rfl)
theorem len_208 {F : Int32 → zM} : z_len 208 F (hp I L ρ) = F (nI 12) (hp I L ρ) := h_len (by decide) (by decide) (by decide)
theorem la_209 {F : Int32 → zM} (h : j < 12) : z_la 20 209 (nI j) F (hp I L ρ) = F (I 209 j) (hp I L ρ) := h_la (by decide) rfl h (Nat.le_of_ble_eq_true rfl)
theorem sa_209 {x : Int32} (h : j < 12) : z_sa 20 209 (nI j) x f (hp I L ρ) = f (hp (u2 I 209 j x) L ρ) := h_sa (by decide) rfl h (Nat.le_of_ble_eq_true rfl)
theorem len_209 {F : Int32 → zM} : z_len 209 F (hp I L ρ) = F (nI 12) (hp I L ρ) := h_len (by decide) (by decide) (by decide)
theorem la_210 {F : Int32 → zM} (h : j < 72) : z_la 20 210 (nI j) F (hp I L ρ) = F (I 210 j) (hp I L ρ) := h_la (by decide) rfl h (Nat.le_of_ble_eq_true rfl)
theorem sa_210 {x : Int32} (h : j < 72) : z_sa 20 210 (nI j) x f (hp I L ρ) = f (hp (u2 I 210 j x) L ρ) := h_sa (by decide) rfl h (Nat.le_of_ble_eq_true rfl)
theorem len_210 {F : Int32 → zM} : z_len 210 F (hp I L ρ) = F (nI 72) (hp I L ρ) := h_len (by decide) (by decide) (by decide)
theorem la_211 {F : Int32 → zM} (h : j < 72) : z_la 20 211 (nI j) F (hp I L ρ) = F (I 211 j) (hp I L ρ) := h_la (by decide) rfl h (Nat.le_of_ble_eq_true rfl)
theorem sa_211 {x : Int32} (h : j < 72) : z_sa 20 211 (nI j) x f (hp I L ρ) = f (hp (u2 I 211 j x) L ρ) := h_sa (by decide) rfl h (Nat.le_of_ble_eq_true rfl)
theorem len_211 {F : Int32 → zM} : z_len 211 F (hp I L ρ) = F (nI 72) (hp I L ρ) := h_len (by decide) (by decide) (by decide)
theorem la_212 {F : Int32 → zM} (h : j < 48) : z_la 20 212 (nI j) F (hp I L ρ) = F (I 212 j) (hp I L ρ) := h_la (by decide) rfl h (Nat.le_of_ble_eq_true rfl)
theorem sa_212 {x : Int32} (h : j < 48) : z_sa 20 212 (nI j) x f (hp I L ρ) = f (hp (u2 I 212 j x) L ρ) := h_sa (by decide) rfl h (Nat.le_of_ble_eq_true rfl)
theorem len_212 {F : Int32 → zM} : z_len 212 F (hp I L ρ) = F (nI 48) (hp I L ρ) := h_len (by decide) (by decide) (by decide)
theorem la_213 {F : Int32 → zM} (h : j < 184) : z_la 20 213 (nI j) F (hp I L ρ) = F (I 213 j) (hp I L ρ) := h_la (by decide) rfl h (Nat.le_of_ble_eq_true rfl)
theorem sa_213 {x : Int32} (h : j < 184) : z_sa 20 213 (nI j) x f (hp I L ρ) = f (hp (u2 I 213 j x) L ρ) := h_sa (by decide) rfl h (Nat.le_of_ble_eq_true rfl)
theorem len_213 {F : Int32 → zM} : z_len 213 F (hp I L ρ) = F (nI 184) (hp I L ρ) := h_len (by decide) (by decide) (by decide)
theorem la_214 {F : Int32 → zM} (h : j < 6) : z_la 20 214 (nI j) F (hp I L ρ) = F (I 214 j) (hp I L ρ) := h_la (by decide) rfl h (Nat.le_of_ble_eq_true rfl)
theorem sa_214 {x : Int32} (h : j < 6) : z_sa 20 214 (nI j) x f (hp I L ρ) = f (hp (u2 I 214 j x) L ρ) := h_sa (by decide) rfl h (Nat.le_of_ble_eq_true rfl)
theorem len_214 {F : Int32 → zM} : z_len 214 F (hp I L ρ) = F (nI 6) (hp I L ρ) := h_len (by decide) (by decide) (by decide)
theorem gi_215 {F : Int32 → zM} : z_gi 12 k 215 F (hp I L ρ) = F (I 215 k) (hp I L ρ) := h_gi (by decide) rfl
theorem pi_215 {x : Int32} : z_pi 12 k 215 x f (hp I L ρ) = f (hp (u2 I 215 k x) L ρ) := h_pi (by decide) rfl
theorem rc_215 : z_rc 12 215 f (hp I L ρ) = f (hp I L ρ) := h_rc (by decide) rfl
theorem gl_215 {F : Int64 → zM} : z_gl 12 k 215 F (hp I L ρ) = F (L 215 k) (hp I L ρ) := h_gl (by decide) rfl
theorem pl_215 {x : Int64} : z_pl 12 k 215 x f (hp I L ρ) = f (hp I (u2 L 215 k x) ρ) := h_pl (by decide) rfl
theorem pb0_215 : z_pb 12 k 215 0 f (hp I L ρ) = f (hp (u2 I 215 k 0) L ρ) := h_pb (by decide) rfl (Or.inl rfl)
theorem pb1_215 : z_pb 12 k 215 1 f (hp I L ρ) = f (hp (u2 I 215 k 1) L ρ) := h_pb (by decide) rfl (Or.inr rfl)
theorem gr_215_0 {F : Nat → zM} : z_gr 12 0 215 F (hp I L ρ) = F (216) (hp I L ρ) := h_gr (by decide) rfl rfl
theorem gr_215_9 {F : Nat → zM} : z_gr 12 9 215 F (hp I L ρ) = F (217) (hp I L ρ) := h_gr (by decide) rfl rfl
theorem gr_215_11 {F : Nat → zM} : z_gr 12 11 215 F (hp I L ρ) = F (218) (hp I L ρ) := h_gr (by decide) rfl rfl
theorem gr_215_12 {F : Nat → zM} : z_gr 12 12 215 F (hp I L ρ) = F (219) (hp I L ρ) := h_gr (by decide) rfl rfl
theorem gr_215_13 {F : Nat → zM} : z_gr 12 13 215 F (hp I L ρ) = F (220) (hp I L ρ) := h_gr (by decide) rfl rfl
theorem gr_215_14 {F : Nat → zM} : z_gr 12 14 215 F (hp I L ρ) = F (221) (hp I L ρ) := h_gr (by decide) rfl rfl
theorem gr_215_15 {F : Nat → zM} : z_gr 12 15 215 F (hp I L ρ) = F (222) (hp I L ρ) := h_gr (by decide) rfl rfl
theorem gr_215_16 {F : Nat → zM} : z_gr 12 16 215 F (hp I L ρ) = F (223) (hp I L ρ) := h_gr (by decide) rfl rfl
theorem gr_215_17 {F : Nat → zM} : z_gr 12 17 215 F (hp I L ρ) = F (224) (hp I L ρ) := h_gr (by decide) rfl rfl
theorem gr_215_18 {F : Nat → zM} : z_gr 12 18 215 F (hp I L ρ) = F (225) (hp I L ρ) := h_gr (by decide) rfl rfl
theorem gr_215_19 {F : Nat → zM} : z_gr 12 19 215 F (hp I L ρ) = F (226) (hp I L ρ) := h_gr (by decide) rfl rfl
theorem gr_215_20 {F : Nat → zM} : z_gr 12 20 215 F (hp I L ρ) = F (227) (hp I L ρ) := h_gr (by decide) rfl rfl
theorem gr_215_21 {F : Nat → zM} : z_gr 12 21 215 F (hp I L ρ) = F (228) (hp I L ρ) := h_gr (by decide) rfl rfl
theorem gr_215_22 {F : Nat → zM} : z_gr 12 22 215 F (hp I L ρ) = F (229) (hp I L ρ) := h_gr (by decide) rfl rfl
theorem gr_215_23 {F : Nat → zM} : z_gr 12 23 215 F (hp I L ρ) = F (230) (hp I L ρ) := h_gr (by decide) rfl rfl
theorem gr_215_24 {F : Nat → zM} : z_gr 12 24 215 F (hp I L ρ) = F (231) (hp I L ρ) := h_gr (by decide) rfl rfl
theorem gr_215_25 {F : Nat → zM} : z_gr 12 25 215 F (hp I L ρ) = F (232) (hp I L ρ) := h_gr (by decide) rfl rfl
theorem gr_215_26 {F : Nat → zM} : z_gr 12 26 215 F (hp I L ρ) = F (233) (hp I L ρ) := h_gr (by decide) rfl rfl
theorem gr_215_27 {F : Nat → zM} : z_gr 12 27 215 F (hp I L ρ) = F (234) (hp I L ρ) := h_gr (by decide) rfl rfl
theorem gr_215_28 {F : Nat → zM} : z_gr 12 28 215 F (hp I L ρ) = F (235) (hp I L ρ) := h_gr (by decide) rfl rfl
theorem gr_215_29 {F : Nat → zM} : z_gr 12 29 215 F (hp I L ρ) = F (236) (hp I L ρ) := h_gr (by decide) rfl rfl
theorem gr_215_30 {F : Nat → zM} : z_gr 12 30 215 F (hp I L ρ) = F (237) (hp I L ρ) := h_gr (by decide) rfl rfl
theorem gr_215_31 {F : Nat → zM} : z_gr 12 31 215 F (hp I L ρ) = F (238) (hp I L ρ) := h_gr (by decide) rfl rfl
theorem gr_215_32 {F : Nat → zM} : z_gr 12 32 215 F (hp I L ρ) = F (239) (hp I L ρ) := h_gr (by decide) rfl rfl
theorem gr_215_33 {F : Nat → zM} : z_gr 12 33 215 F (hp I L ρ) = F (240) (hp I L ρ) := h_gr (by decide) rfl rfl
theorem gr_215_34 {F : Nat → zM} : z_gr 12 34 215 F (hp I L ρ) = F (241) (hp I L ρ) := h_gr (by decide) rfl rfl
theorem gr_215_35 {F : Nat → zM} : z_gr 12 35 215 F (hp I L ρ) = F (242) (hp I L ρ) := h_gr (by decide) rfl rfl
theorem gr_215_36 {F : Nat → zM} : z_gr 12 36 215 F (hp I L ρ) = F (243) (hp I L ρ) := h_gr (by decide) rfl rfl
theorem gr_215_37 {F : Nat → zM} : z_gr 12 37 215 F (hp I L ρ) = F (244) (hp I L ρ) := h_gr (by decide) rfl rfl
theorem gr_215_38 {F : Nat → zM} : z_gr 12 38 215 F (hp I L ρ) = F (245) (hp I L ρ) := h_gr (by decide) rfl rfl
theorem gr_215_40 {F : Nat → zM} : z_gr 12 40 215 F (hp I L ρ) = F (246) (hp I L ρ) := h_gr (by decide) rfl rfl
theorem gr_215_41 {F : Nat → zM} : z_gr 12 41 215 F (hp I L ρ) = F (247) (hp I L ρ) := h_gr (by decide) rfl rfl
theorem gr_215_42 {F : Nat → zM} : z_gr 12 42 215 F (hp I L ρ) = F (248) (hp I L ρ) := h_gr (by decide) rfl rfl
theorem gr_215_43 {F : Nat → zM} : z_gr 12 43 215 F (hp I L ρ) = F (249) (hp I L ρ) := h_gr (by decide) rfl rfl
theorem gr_215_44 {F : Nat → zM} : z_gr 12 44 215 F (hp I L ρ) = F (250) (hp I L ρ) := h_gr (by decide) rfl rfl
theorem gr_215_45 {F : Nat → zM} : z_gr 12 45 215 F (hp I L ρ) = F (251) (hp I L ρ) := h_gr (by decide) rfl rfl
theorem gr_215_46 {F : Nat → zM} : z_gr 12 46 215 F (hp I L ρ) = F (252) (hp I L ρ) := h_gr (by decide) rfl rfl
theorem gr_215_47 {F : Nat → zM} : z_gr 12 47 215 F (hp I L ρ) = F (253) (hp I L ρ) := h_gr (by decide) rfl rfl
theorem gr_215_48 {F : Nat → zM} : z_gr 12 48 215 F (hp I L ρ) = F (254) (hp I L ρ) := h_gr (by decide) rfl rfl
theorem gr_215_52 {F : Nat → zM} : z_gr 12 52 215 F (hp I L ρ) = F (255) (hp I L ρ) := h_gr (by decide) rfl rfl
theorem gr_215_61 {F : Nat → zM} : z_gr 12 61 215 F (hp I L ρ) = F (256) (hp I L ρ) := h_gr (by decide) rfl rfl
theorem gr_215_62 {F : Nat → zM} : z_gr 12 62 215 F (hp I L ρ) = F (257) (hp I L ρ) := h_gr (by decide) rfl rfl
theorem gr_215_65 {F : Nat → zM} : z_gr 12 65 215 F (hp I L ρ) = F (258) (hp I L ρ) := h_gr (by decide) rfl rfl
theorem gr_215_66 {F : Nat → zM} : z_gr 12 66 215 F (hp I L ρ) = F (259) (hp I L ρ) := h_gr (by decide) rfl rfl
theorem gr_215_67 {F : Nat → zM} : z_gr 12 67 215 F (hp I L ρ) = F (260) (hp I L ρ) := h_gr (by decide) rfl rfl
theorem gr_215_68 {F : Nat → zM} : z_gr 12 68 215 F (hp I L ρ) = F (261) (hp I L ρ) := h_gr (by decide) rfl rfl
theorem gr_215_69 {F : Nat → zM} : z_gr 12 69 215 F (hp I L ρ) = F (262) (hp I L ρ) := h_gr (by decide) rfl rfl
theorem gr_215_70 {F : Nat → zM} : z_gr 12 70 215 F (hp I L ρ) = F (263) (hp I L ρ) := h_gr (by decide) rfl rfl
theorem gr_215_72 {F : Nat → zM} : z_gr 12 72 215 F (hp I L ρ) = F (264) (hp I L ρ) := h_gr (by decide) rfl rfl
theorem gr_215_73 {F : Nat → zM} : z_gr 12 73 215 F (hp I L ρ) = F (265) (hp I L ρ) := h_gr (by decide) rfl rfl
theorem gr_215_74 {F : Nat → zM} : z_gr 12 74 215 F (hp I L ρ) = F (266) (hp I L ρ) := h_gr (by decide) rfl rfl
theorem gr_215_78 {F : Nat → zM} : z_gr 12 78 215 F (hp I L ρ) = F (267) (hp I L ρ) := h_gr (by decide) rfl rfl
theorem gr_215_79 {F : Nat → zM} : z_gr 12 79 215 F (hp I L ρ) = F (268) (hp I L ρ) := h_gr (by decide) rfl rfl
theorem gr_215_80 {F : Nat → zM} : z_gr 12 80 215 F (hp I L ρ) = F (269) (hp I L ρ) := h_gr (by decide) rfl rfl
theorem gr_215_81 {F : Nat → zM} : z_gr 12 81 215 F (hp I L ρ) = F (270) (hp I L ρ) := h_gr (by decide) rfl rfl
theorem gr_215_82 {F : Nat → zM} : z_gr 12 82 215 F (hp I L ρ) = F (271) (hp I L ρ) := h_gr (by decide) rfl rfl
theorem gr_215_83 {F : Nat → zM} : z_gr 12 83 215 F (hp I L ρ) = F (272) (hp I L ρ) := h_gr (by decide) rfl rfl
theorem gr_215_84 {F : Nat → zM} : z_gr 12 84 215 F (hp I L ρ) = F (273) (hp I L ρ) := h_gr (by decide) rfl rfl
theorem gr_215_85 {F : Nat → zM} : z_gr 12 85 215 F (hp I L ρ) = F (274) (hp I L ρ) := h_gr (by decide) rfl rfl
theorem gr_215_86 {F : Nat → zM} : z_gr 12 86 215 F (hp I L ρ) = F (275) (hp I L ρ) := h_gr (by decide) rfl rfl
theorem gr_215_87 {F : Nat → zM} : z_gr 12 87 215 F (hp I L ρ) = F (276) (hp I L ρ) := h_gr (by decide) rfl rfl
theorem gr_215_88 {F : Nat → zM} : z_gr 12 88 215 F (hp I L ρ) = F (277) (hp I L ρ) := h_gr (by decide) rfl rfl
theorem gr_215_89 {F : Nat → zM} : z_gr 12 89 215 F (hp I L ρ) = F (278) (hp I L ρ) := h_gr (by decide) rfl rfl
theorem gr_215_90 {F : Nat → zM} : z_gr 12 90 215 F (hp I L ρ) = F (279) (hp I L ρ) := h_gr (by decide) rfl rfl
theorem gr_215_91 {F : Nat → zM} : z_gr 12 91 215 F (hp I L ρ) = F (280) (hp I L ρ) := h_gr (by decide) rfl rfl
theorem gr_215_92 {F : Nat → zM} : z_gr 12 92 215 F (hp I L ρ) = F (281) (hp I L ρ) := h_gr (by decide) rfl rfl
theorem gr_215_93 {F : Nat → zM} : z_gr 12 93 215 F (hp I L ρ) = F (282) (hp I L ρ) := h_gr (by decide) rfl rfl
theorem gr_215_94 {F : Nat → zM} : z_gr 12 94 215 F (hp I L ρ) = F (283) (hp I L ρ) := h_gr (by decide) rfl rfl
theorem gr_215_95 {F : Nat → zM} : z_gr 12 95 215 F (hp I L ρ) = F (284) (hp I L ρ) := h_gr (by decide) rfl rfl
theorem gr_215_96 {F : Nat → zM} : z_gr 12 96 215 F (hp I L ρ) = F (285) (hp I L ρ) := h_gr (by decide) rfl rfl
theorem gr_215_97 {F : Nat → zM} : z_gr 12 97 215 F (hp I L ρ) = F (286) (hp I L ρ) := h_gr (by decide) rfl rfl
theorem gr_215_98 {F : Nat → zM} : z_gr 12 98 215 F (hp I L ρ) = F (287) (hp I L ρ) := h_gr (by decide) rfl rfl
theorem gr_215_99 {F : Nat → zM} : z_gr 12 99 215 F (hp I L ρ) = F (288) (hp I L ρ) := h_gr (by decide) rfl rfl
theorem gr_215_100 {F : Nat → zM} : z_gr 12 100 215 F (hp I L ρ) = F (289) (hp I L ρ) := h_gr (by decide) rfl rfl
theorem gr_215_101 {F : Nat → zM} : z_gr 12 101 215 F (hp I L ρ) = F (290) (hp I L ρ) := h_gr (by decide) rfl rfl
theorem gr_215_102 {F : Nat → zM} : z_gr 12 102 215 F (hp I L ρ) = F (291) (hp I L ρ) := h_gr (by decide) rfl rfl
theorem gr_215_103 {F : Nat → zM} : z_gr 12 103 215 F (hp I L ρ) = F (292) (hp I L ρ) := h_gr (by decide) rfl rfl
theorem gr_215_104 {F : Nat → zM} : z_gr 12 104 215 F (hp I L ρ) = F (293) (hp I L ρ) := h_gr (by decide) rfl rfl
theorem gr_215_106 {F : Nat → zM} : z_gr 12 106 215 F (hp I L ρ) = F (294) (hp I L ρ) := h_gr (by decide) rfl rfl
theorem gr_215_110 {F : Nat → zM} : z_gr 12 110 215 F (hp I L ρ) = F (295) (hp I L ρ) := h_gr (by decide) rfl rfl
theorem gr_215_114 {F : Nat → zM} : z_gr 12 114 215 F (hp I L ρ) = F (296) (hp I L ρ) := h_gr (by decide) rfl rfl
theorem la_216 {F : Int32 → zM} (h : j < 1600) : z_la 20 216 (nI j) F (hp I L ρ) = F (I 216 j) (hp I L ρ) := h_la (by decide) rfl h (Nat.le_of_ble_eq_true rfl)
theorem sa_216 {x : Int32} (h : j < 1600) : z_sa 20 216 (nI j) x f (hp I L ρ) = f (hp (u2 I 216 j x) L ρ) := h_sa (by decide) rfl h (Nat.le_of_ble_eq_true rfl)
theorem len_216 {F : Int32 → zM} : z_len 216 F (hp I L ρ) = F (nI 1600) (hp I L ρ) := h_len (by decide) (by decide) (by decide)
theorem la_217 {F : Int32 → zM} (h : j < 6) : z_la 20 217 (nI j) F (hp I L ρ) = F (I 217 j) (hp I L ρ) := h_la (by decide) rfl h (Nat.le_of_ble_eq_true rfl)
theorem sa_217 {x : Int32} (h : j < 6) : z_sa 20 217 (nI j) x f (hp I L ρ) = f (hp (u2 I 217 j x) L ρ) := h_sa (by decide) rfl h (Nat.le_of_ble_eq_true rfl)
theorem len_217 {F : Int32 → zM} : z_len 217 F (hp I L ρ) = F (nI 6) (hp I L ρ) := h_len (by decide) (by decide) (by decide)
theorem la_218 {F : Int32 → zM} (h : j < 4) : z_la 22 218 (nI j) F (hp I L ρ) = F (I 218 j) (hp I L ρ) := h_la (by decide) rfl h (Nat.le_of_ble_eq_true rfl)
theorem sa_218 {x : Int32} (h : j < 4) : z_sa 22 218 (nI j) x f (hp I L ρ) = f (hp (u2 I 218 j x) L ρ) := h_sa (by decide) rfl h (Nat.le_of_ble_eq_true rfl)
theorem len_218 {F : Int32 → zM} : z_len 218 F (hp I L ρ) = F (nI 4) (hp I L ρ) := h_len (by decide) (by decide) (by decide)
theorem la_219 {F : Int32 → zM} (h : j < 5) : z_la 22 219 (nI j) F (hp I L ρ) = F (I 219 j) (hp I L ρ) := h_la (by decide) rfl h (Nat.le_of_ble_eq_true rfl)
theorem sa_219 {x : Int32} (h : j < 5) : z_sa 22 219 (nI j) x f (hp I L ρ) = f (hp (u2 I 219 j x) L ρ) := h_sa (by decide) rfl h (Nat.le_of_ble_eq_true rfl)
theorem len_219 {F : Int32 → zM} : z_len 219 F (hp I L ρ) = F (nI 5) (hp I L ρ) := h_len (by decide) (by decide) (by decide)
theorem la_220 {F : Int32 → zM} (h : j < 4) : z_la 22 220 (nI j) F (hp I L ρ) = F (I 220 j) (hp I L ρ) := h_la (by decide) rfl h (Nat.le_of_ble_eq_true rfl)
theorem sa_220 {x : Int32} (h : j < 4) : z_sa 22 220 (nI j) x f (hp I L ρ) = f (hp (u2 I 220 j x) L ρ) := h_sa (by decide) rfl h (Nat.le_of_ble_eq_true rfl)
theorem len_220 {F : Int32 → zM} : z_len 220 F (hp I L ρ) = F (nI 4) (hp I L ρ) := h_len (by decide) (by decide) (by decide)
theorem la_221 {F : Int32 → zM} (h : j < 4) : z_la 22 221 (nI j) F (hp I L ρ) = F (I 221 j) (hp I L ρ) := h_la (by decide) rfl h (Nat.le_of_ble_eq_true rfl)
theorem sa_221 {x : Int32} (h : j < 4) : z_sa 22 221 (nI j) x f (hp I L ρ) = f (hp (u2 I 221 j x) L ρ) := h_sa (by decide) rfl h (Nat.le_of_ble_eq_true rfl)
theorem len_221 {F : Int32 → zM} : z_len 221 F (hp I L ρ) = F (nI 4) (hp I L ρ) := h_len (by decide) (by decide) (by decide)
theorem la_222 {F : Int32 → zM} (h : j < 4) : z_la 22 222 (nI j) F (hp I L ρ) = F (I 222 j) (hp I L ρ) := h_la (by decide) rfl h (Nat.le_of_ble_eq_true rfl)
theorem sa_222 {x : Int32} (h : j < 4) : z_sa 22 222 (nI j) x f (hp I L ρ) = f (hp (u2 I 222 j x) L ρ) := h_sa (by decide) rfl h (Nat.le_of_ble_eq_true rfl)
theorem len_222 {F : Int32 → zM} : z_len 222 F (hp I L ρ) = F (nI 4) (hp I L ρ) := h_len (by decide) (by decide) (by decide)
theorem la_223 {F : Int32 → zM} (h : j < 3) : z_la 22 223 (nI j) F (hp I L ρ) = F (I 223 j) (hp I L ρ) := h_la (by decide) rfl h (Nat.le_of_ble_eq_true rfl)
theorem sa_223 {x : Int32} (h : j < 3) : z_sa 22 223 (nI j) x f (hp I L ρ) = f (hp (u2 I 223 j x) L ρ) := h_sa (by decide) rfl h (Nat.le_of_ble_eq_true rfl)
theorem len_223 {F : Int32 → zM} : z_len 223 F (hp I L ρ) = F (nI 3) (hp I L ρ) := h_len (by decide) (by decide) (by decide)
theorem la_224 {F : Int32 → zM} (h : j < 5) : z_la 22 224 (nI j) F (hp I L ρ) = F (I 224 j) (hp I L ρ) := h_la (by decide) rfl h (Nat.le_of_ble_eq_true rfl)
theorem sa_224 {x : Int32} (h : j < 5) : z_sa 22 224 (nI j) x f (hp I L ρ) = f (hp (u2 I 224 j x) L ρ) := h_sa (by decide) rfl h (Nat.le_of_ble_eq_true rfl)
theorem len_224 {F : Int32 → zM} : z_len 224 F (hp I L ρ) = F (nI 5) (hp I L ρ) := h_len (by decide) (by decide) (by decide)
theorem la_225 {F : Int32 → zM} (h : j < 5) : z_la 22 225 (nI j) F (hp I L ρ) = F (I 225 j) (hp I L ρ) := h_la (by decide) rfl h (Nat.le_of_ble_eq_true rfl)
theorem sa_225 {x : Int32} (h : j < 5) : z_sa 22 225 (nI j) x f (hp I L ρ) = f (hp (u2 I 225 j x) L ρ) := h_sa (by decide) rfl h (Nat.le_of_ble_eq_true rfl)
theorem len_225 {F : Int32 → zM} : z_len 225 F (hp I L ρ) = F (nI 5) (hp I L ρ) := h_len (by decide) (by decide) (by decide)
theorem la_226 {F : Int32 → zM} (h : j < 6) : z_la 22 226 (nI j) F (hp I L ρ) = F (I 226 j) (hp I L ρ) := h_la (by decide) rfl h (Nat.le_of_ble_eq_true rfl)
theorem sa_226 {x : Int32} (h : j < 6) : z_sa 22 226 (nI j) x f (hp I L ρ) = f (hp (u2 I 226 j x) L ρ) := h_sa (by decide) rfl h (Nat.le_of_ble_eq_true rfl)
theorem len_226 {F : Int32 → zM} : z_len 226 F (hp I L ρ) = F (nI 6) (hp I L ρ) := h_len (by decide) (by decide) (by decide)
theorem la_227 {F : Int32 → zM} (h : j < 5) : z_la 22 227 (nI j) F (hp I L ρ) = F (I 227 j) (hp I L ρ) := h_la (by decide) rfl h (Nat.le_of_ble_eq_true rfl)
theorem sa_227 {x : Int32} (h : j < 5) : z_sa 22 227 (nI j) x f (hp I L ρ) = f (hp (u2 I 227 j x) L ρ) := h_sa (by decide) rfl h (Nat.le_of_ble_eq_true rfl)
theorem len_227 {F : Int32 → zM} : z_len 227 F (hp I L ρ) = F (nI 5) (hp I L ρ) := h_len (by decide) (by decide) (by decide)
theorem la_228 {F : Int32 → zM} (h : j < 4) : z_la 22 228 (nI j) F (hp I L ρ) = F (I 228 j) (hp I L ρ) := h_la (by decide) rfl h (Nat.le_of_ble_eq_true rfl)
theorem sa_228 {x : Int32} (h : j < 4) : z_sa 22 228 (nI j) x f (hp I L ρ) = f (hp (u2 I 228 j x) L ρ) := h_sa (by decide) rfl h (Nat.le_of_ble_eq_true rfl)
theorem len_228 {F : Int32 → zM} : z_len 228 F (hp I L ρ) = F (nI 4) (hp I L ρ) := h_len (by decide) (by decide) (by decide)
theorem la_229 {F : Int32 → zM} (h : j < 6) : z_la 22 229 (nI j) F (hp I L ρ) = F (I 229 j) (hp I L ρ) := h_la (by decide) rfl h (Nat.le_of_ble_eq_true rfl)
theorem sa_229 {x : Int32} (h : j < 6) : z_sa 22 229 (nI j) x f (hp I L ρ) = f (hp (u2 I 229 j x) L ρ) := h_sa (by decide) rfl h (Nat.le_of_ble_eq_true rfl)
theorem len_229 {F : Int32 → zM} : z_len 229 F (hp I L ρ) = F (nI 6) (hp I L ρ) := h_len (by decide) (by decide) (by decide)
theorem la_230 {F : Int32 → zM} (h : j < 4) : z_la 22 230 (nI j) F (hp I L ρ) = F (I 230 j) (hp I L ρ) := h_la (by decide) rfl h (Nat.le_of_ble_eq_true rfl)
theorem sa_230 {x : Int32} (h : j < 4) : z_sa 22 230 (nI j) x f (hp I L ρ) = f (hp (u2 I 230 j x) L ρ) := h_sa (by decide) rfl h (Nat.le_of_ble_eq_true rfl)
theorem len_230 {F : Int32 → zM} : z_len 230 F (hp I L ρ) = F (nI 4) (hp I L ρ) := h_len (by decide) (by decide) (by decide)
theorem la_231 {F : Int32 → zM} (h : j < 6) : z_la 22 231 (nI j) F (hp I L ρ) = F (I 231 j) (hp I L ρ) := h_la (by decide) rfl h (Nat.le_of_ble_eq_true rfl)
theorem sa_231 {x : Int32} (h : j < 6) : z_sa 22 231 (nI j) x f (hp I L ρ) = f (hp (u2 I 231 j x) L ρ) := h_sa (by decide) rfl h (Nat.le_of_ble_eq_true rfl)
theorem len_231 {F : Int32 → zM} : z_len 231 F (hp I L ρ) = F (nI 6) (hp I L ρ) := h_len (by decide) (by decide) (by decide)
theorem la_232 {F : Int32 → zM} (h : j < 5) : z_la 22 232 (nI j) F (hp I L ρ) = F (I 232 j) (hp I L ρ) := h_la (by decide) rfl h (Nat.le_of_ble_eq_true rfl)
theorem sa_232 {x : Int32} (h : j < 5) : z_sa 22 232 (nI j) x f (hp I L ρ) = f (hp (u2 I 232 j x) L ρ) := h_sa (by decide) rfl h (Nat.le_of_ble_eq_true rfl)
theorem len_232 {F : Int32 → zM} : z_len 232 F (hp I L ρ) = F (nI 5) (hp I L ρ) := h_len (by decide) (by decide) (by decide)
theorem la_233 {F : Int32 → zM} (h : j < 4) : z_la 22 233 (nI j) F (hp I L ρ) = F (I 233 j) (hp I L ρ) := h_la (by decide) rfl h (Nat.le_of_ble_eq_true rfl)
theorem sa_233 {x : Int32} (h : j < 4) : z_sa 22 233 (nI j) x f (hp I L ρ) = f (hp (u2 I 233 j x) L ρ) := h_sa (by decide) rfl h (Nat.le_of_ble_eq_true rfl)
theorem len_233 {F : Int32 → zM} : z_len 233 F (hp I L ρ) = F (nI 4) (hp I L ρ) := h_len (by decide) (by decide) (by decide)
theorem la_234 {F : Int32 → zM} (h : j < 5) : z_la 22 234 (nI j) F (hp I L ρ) = F (I 234 j) (hp I L ρ) := h_la (by decide) rfl h (Nat.le_of_ble_eq_true rfl)
theorem sa_234 {x : Int32} (h : j < 5) : z_sa 22 234 (nI j) x f (hp I L ρ) = f (hp (u2 I 234 j x) L ρ) := h_sa (by decide) rfl h (Nat.le_of_ble_eq_true rfl)
theorem len_234 {F : Int32 → zM} : z_len 234 F (hp I L ρ) = F (nI 5) (hp I L ρ) := h_len (by decide) (by decide) (by decide)
theorem la_235 {F : Int32 → zM} (h : j < 6) : z_la 22 235 (nI j) F (hp I L ρ) = F (I 235 j) (hp I L ρ) := h_la (by decide) rfl h (Nat.le_of_ble_eq_true rfl)
theorem sa_235 {x : Int32} (h : j < 6) : z_sa 22 235 (nI j) x f (hp I L ρ) = f (hp (u2 I 235 j x) L ρ) := h_sa (by decide) rfl h (Nat.le_of_ble_eq_true rfl)
theorem len_235 {F : Int32 → zM} : z_len 235 F (hp I L ρ) = F (nI 6) (hp I L ρ) := h_len (by decide) (by decide) (by decide)
theorem la_236 {F : Int32 → zM} (h : j < 6) : z_la 22 236 (nI j) F (hp I L ρ) = F (I 236 j) (hp I L ρ) := h_la (by decide) rfl h (Nat.le_of_ble_eq_true rfl)
theorem sa_236 {x : Int32} (h : j < 6) : z_sa 22 236 (nI j) x f (hp I L ρ) = f (hp (u2 I 236 j x) L ρ) := h_sa (by decide) rfl h (Nat.le_of_ble_eq_true rfl)
theorem len_236 {F : Int32 → zM} : z_len 236 F (hp I L ρ) = F (nI 6) (hp I L ρ) := h_len (by decide) (by decide) (by decide)
theorem la_237 {F : Int32 → zM} (h : j < 6) : z_la 22 237 (nI j) F (hp I L ρ) = F (I 237 j) (hp I L ρ) := h_la (by decide) rfl h (Nat.le_of_ble_eq_true rfl)
theorem sa_237 {x : Int32} (h : j < 6) : z_sa 22 237 (nI j) x f (hp I L ρ) = f (hp (u2 I 237 j x) L ρ) := h_sa (by decide) rfl h (Nat.le_of_ble_eq_true rfl)
theorem len_237 {F : Int32 → zM} : z_len 237 F (hp I L ρ) = F (nI 6) (hp I L ρ) := h_len (by decide) (by decide) (by decide)
theorem la_238 {F : Int32 → zM} (h : j < 4) : z_la 22 238 (nI j) F (hp I L ρ) = F (I 238 j) (hp I L ρ) := h_la (by decide) rfl h (Nat.le_of_ble_eq_true rfl)
theorem sa_238 {x : Int32} (h : j < 4) : z_sa 22 238 (nI j) x f (hp I L ρ) = f (hp (u2 I 238 j x) L ρ) := h_sa (by decide) rfl h (Nat.le_of_ble_eq_true rfl)
theorem len_238 {F : Int32 → zM} : z_len 238 F (hp I L ρ) = F (nI 4) (hp I L ρ) := h_len (by decide) (by decide) (by decide)
theorem la_239 {F : Int32 → zM} (h : j < 3) : z_la 22 239 (nI j) F (hp I L ρ) = F (I 239 j) (hp I L ρ) := h_la (by decide) rfl h (Nat.le_of_ble_eq_true rfl)
theorem sa_239 {x : Int32} (h : j < 3) : z_sa 22 239 (nI j) x f (hp I L ρ) = f (hp (u2 I 239 j x) L ρ) := h_sa (by decide) rfl h (Nat.le_of_ble_eq_true rfl)
theorem len_239 {F : Int32 → zM} : z_len 239 F (hp I L ρ) = F (nI 3) (hp I L ρ) := h_len (by decide) (by decide) (by decide)
theorem la_240 {F : Int32 → zM} (h : j < 2) : z_la 22 240 (nI j) F (hp I L ρ) = F (I 240 j) (hp I L ρ) := h_la (by decide) rfl h (Nat.le_of_ble_eq_true rfl)
theorem sa_240 {x : Int32} (h : j < 2) : z_sa 22 240 (nI j) x f (hp I L ρ) = f (hp (u2 I 240 j x) L ρ) := h_sa (by decide) rfl h (Nat.le_of_ble_eq_true rfl)
theorem len_240 {F : Int32 → zM} : z_len 240 F (hp I L ρ) = F (nI 2) (hp I L ρ) := h_len (by decide) (by decide) (by decide)
theorem la_241 {F : Int32 → zM} (h : j < 3) : z_la 22 241 (nI j) F (hp I L ρ) = F (I 241 j) (hp I L ρ) := h_la (by decide) rfl h (Nat.le_of_ble_eq_true rfl)
theorem sa_241 {x : Int32} (h : j < 3) : z_sa 22 241 (nI j) x f (hp I L ρ) = f (hp (u2 I 241 j x) L ρ) := h_sa (by decide) rfl h (Nat.le_of_ble_eq_true rfl)
theorem len_241 {F : Int32 → zM} : z_len 241 F (hp I L ρ) = F (nI 3) (hp I L ρ) := h_len (by decide) (by decide) (by decide)
theorem la_242 {F : Int32 → zM} (h : j < 3) : z_la 22 242 (nI j) F (hp I L ρ) = F (I 242 j) (hp I L ρ) := h_la (by decide) rfl h (Nat.le_of_ble_eq_true rfl)
theorem sa_242 {x : Int32} (h : j < 3) : z_sa 22 242 (nI j) x f (hp I L ρ) = f (hp (u2 I 242 j x) L ρ) := h_sa (by decide) rfl h (Nat.le_of_ble_eq_true rfl)
theorem len_242 {F : Int32 → zM} : z_len 242 F (hp I L ρ) = F (nI 3) (hp I L ρ) := h_len (by decide) (by decide) (by decide)
theorem la_243 {F : Int32 → zM} (h : j < 3) : z_la 22 243 (nI j) F (hp I L ρ) = F (I 243 j) (hp I L ρ) := h_la (by decide) rfl h (Nat.le_of_ble_eq_true rfl)
theorem sa_243 {x : Int32} (h : j < 3) : z_sa 22 243 (nI j) x f (hp I L ρ) = f (hp (u2 I 243 j x) L ρ) := h_sa (by decide) rfl h (Nat.le_of_ble_eq_true rfl)
theorem len_243 {F : Int32 → zM} : z_len 243 F (hp I L ρ) = F (nI 3) (hp I L ρ) := h_len (by decide) (by decide) (by decide)
theorem la_244 {F : Int32 → zM} (h : j < 3) : z_la 22 244 (nI j) F (hp I L ρ) = F (I 244 j) (hp I L ρ) := h_la (by decide) rfl h (Nat.le_of_ble_eq_true rfl)
theorem sa_244 {x : Int32} (h : j < 3) : z_sa 22 244 (nI j) x f (hp I L ρ) = f (hp (u2 I 244 j x) L ρ) := h_sa (by decide) rfl h (Nat.le_of_ble_eq_true rfl)
theorem len_244 {F : Int32 → zM} : z_len 244 F (hp I L ρ) = F (nI 3) (hp I L ρ) := h_len (by decide) (by decide) (by decide)
theorem la_245 {F : Int32 → zM} (h : j < 3) : z_la 22 245 (nI j) F (hp I L ρ) = F (I 245 j) (hp I L ρ) := h_la (by decide) rfl h (Nat.le_of_ble_eq_true rfl)
theorem sa_245 {x : Int32} (h : j < 3) : z_sa 22 245 (nI j) x f (hp I L ρ) = f (hp (u2 I 245 j x) L ρ) := h_sa (by decide) rfl h (Nat.le_of_ble_eq_true rfl)
theorem len_245 {F : Int32 → zM} : z_len 245 F (hp I L ρ) = F (nI 3) (hp I L ρ) := h_len (by decide) (by decide) (by decide)
theorem la_246 {F : Int32 → zM} (h : j < 12) : z_la 20 246 (nI j) F (hp I L ρ) = F (I 246 j) (hp I L ρ) := h_la (by decide) rfl h (Nat.le_of_ble_eq_true rfl)
theorem sa_246 {x : Int32} (h : j < 12) : z_sa 20 246 (nI j) x f (hp I L ρ) = f (hp (u2 I 246 j x) L ρ) := h_sa (by decide) rfl h (Nat.le_of_ble_eq_true rfl)
theorem len_246 {F : Int32 → zM} : z_len 246 F (hp I L ρ) = F (nI 12) (hp I L ρ) := h_len (by decide) (by decide) (by decide)
theorem ll_247 {F : Int64 → zM} (h : j < 24) : z_ll 247 (nI j) F (hp I L ρ) = F (L 247 j) (hp I L ρ) := h_ll (by decide) rfl h (Nat.le_of_ble_eq_true rfl)
theorem sl_247 {x : Int64} (h : j < 24) : z_sl 247 (nI j) x f (hp I L ρ) = f (hp I (u2 L 247 j x) ρ) := h_sl (by decide) rfl h (Nat.le_of_ble_eq_true rfl)
theorem la_248 {F : Int32 → zM} (h : j < 72) : z_la 20 248 (nI j) F (hp I L ρ) = F (I 248 j) (hp I L ρ) := h_la (by decide) rfl h (Nat.le_of_ble_eq_true rfl)
theorem sa_248 {x : Int32} (h : j < 72) : z_sa 20 248 (nI j) x f (hp I L ρ) = f (hp (u2 I 248 j x) L ρ) := h_sa (by decide) rfl h (Nat.le_of_ble_eq_true rfl)
theorem len_248 {F : Int32 → zM} : z_len 248 F (hp I L ρ) = F (nI 72) (hp I L ρ) := h_len (by decide) (by decide) (by decide)
theorem la_249 {F : Int32 → zM} (h : j < 72) : z_la 21 249 (nI j) F (hp I L ρ) = F (I 249 j) (hp I L ρ) := h_la (by decide) rfl h (Nat.le_of_ble_eq_true rfl)
theorem sa_249 {x : Int32} (h : j < 72) : z_sa 21 249 (nI j) x f (hp I L ρ) = f (hp (u2 I 249 j x) L ρ) := h_sa (by decide) rfl h (Nat.le_of_ble_eq_true rfl)
theorem len_249 {F : Int32 → zM} : z_len 249 F (hp I L ρ) = F (nI 72) (hp I L ρ) := h_len (by decide) (by decide) (by decide)
theorem la_250 {F : Int32 → zM} (h : j < 72) : z_la 20 250 (nI j) F (hp I L ρ) = F (I 250 j) (hp I L ρ) := h_la (by decide) rfl h (Nat.le_of_ble_eq_true rfl)
theorem sa_250 {x : Int32} (h : j < 72) : z_sa 20 250 (nI j) x f (hp I L ρ) = f (hp (u2 I 250 j x) L ρ) := h_sa (by decide) rfl h (Nat.le_of_ble_eq_true rfl)
theorem len_250 {F : Int32 → zM} : z_len 250 F (hp I L ρ) = F (nI 72) (hp I L ρ) := h_len (by decide) (by decide) (by decide)
theorem la_251 {F : Int32 → zM} (h : j < 72) : z_la 20 251 (nI j) F (hp I L ρ) = F (I 251 j) (hp I L ρ) := h_la (by decide) rfl h (Nat.le_of_ble_eq_true rfl)
theorem sa_251 {x : Int32} (h : j < 72) : z_sa 20 251 (nI j) x f (hp I L ρ) = f (hp (u2 I 251 j x) L ρ) := h_sa (by decide) rfl h (Nat.le_of_ble_eq_true rfl)
theorem len_251 {F : Int32 → zM} : z_len 251 F (hp I L ρ) = F (nI 72) (hp I L ρ) := h_len (by decide) (by decide) (by decide)
theorem la_252 {F : Int32 → zM} (h : j < 6) : z_la 20 252 (nI j) F (hp I L ρ) = F (I 252 j) (hp I L ρ) := h_la (by decide) rfl h (Nat.le_of_ble_eq_true rfl)
theorem sa_252 {x : Int32} (h : j < 6) : z_sa 20 252 (nI j) x f (hp I L ρ) = f (hp (u2 I 252 j x) L ρ) := h_sa (by decide) rfl h (Nat.le_of_ble_eq_true rfl)
theorem len_252 {F : Int32 → zM} : z_len 252 F (hp I L ρ) = F (nI 6) (hp I L ρ) := h_len (by decide) (by decide) (by decide)
theorem la_253 {F : Int32 → zM} (h : j < 6) : z_la 20 253 (nI j) F (hp I L ρ) = F (I 253 j) (hp I L ρ) := h_la (by decide) rfl h (Nat.le_of_ble_eq_true rfl)
theorem sa_253 {x : Int32} (h : j < 6) : z_sa 20 253 (nI j) x f (hp I L ρ) = f (hp (u2 I 253 j x) L ρ) := h_sa (by decide) rfl h (Nat.le_of_ble_eq_true rfl)
theorem len_253 {F : Int32 → zM} : z_len 253 F (hp I L ρ) = F (nI 6) (hp I L ρ) := h_len (by decide) (by decide) (by decide)
theorem la_254 {F : Int32 → zM} (h : j < 3200) : z_la 20 254 (nI j) F (hp I L ρ) = F (I 254 j) (hp I L ρ) := h_la (by decide) rfl h (Nat.le_of_ble_eq_true rfl)
theorem sa_254 {x : Int32} (h : j < 3200) : z_sa 20 254 (nI j) x f (hp I L ρ) = f (hp (u2 I 254 j x) L ρ) := h_sa (by decide) rfl h (Nat.le_of_ble_eq_true rfl)
theorem len_254 {F : Int32 → zM} : z_len 254 F (hp I L ρ) = F (nI 3200) (hp I L ρ) := h_len (by decide) (by decide) (by decide)
theorem la_255 {F : Int32 → zM} (h : j < 343) : z_la 20 255 (nI j) F (hp I L ρ) = F (I 255 j) (hp I L ρ) := h_la (by decide) rfl h (Nat.le_of_ble_eq_true rfl)
theorem sa_255 {x : Int32} (h : j < 343) : z_sa 20 255 (nI j) x f (hp I L ρ) = f (hp (u2 I 255 j x) L ρ) := h_sa (by decide) rfl h (Nat.le_of_ble_eq_true rfl)
theorem len_255 {F : Int32 → zM} : z_len 255 F (hp I L ρ) = F (nI 343) (hp I L ρ) := h_len (by decide) (by decide) (by decide)
theorem la_256 {F : Int32 → zM} (h : j < 12) : z_la 20 256 (nI j) F (hp I L ρ) = F (I 256 j) (hp I L ρ) := h_la (by decide) rfl h (Nat.le_of_ble_eq_true rfl)
theorem sa_256 {x : Int32} (h : j < 12) : z_sa 20 256 (nI j) x f (hp I L ρ) = f (hp (u2 I 256 j x) L ρ) := h_sa (by decide) rfl h (Nat.le_of_ble_eq_true rfl)
theorem len_256 {F : Int32 → zM} : z_len 256 F (hp I L ρ) = F (nI 12) (hp I L ρ) := h_len (by decide) (by decide) (by decide)
theorem la_257 {F : Int32 → zM} (h : j < 12) : z_la 20 257 (nI j) F (hp I L ρ) = F (I 257 j) (hp I L ρ) := h_la (by decide) rfl h (Nat.le_of_ble_eq_true rfl)
theorem sa_257 {x : Int32} (h : j < 12) : z_sa 20 257 (nI j) x f (hp I L ρ) = f (hp (u2 I 257 j x) L ρ) := h_sa (by decide) rfl h (Nat.le_of_ble_eq_true rfl)
theorem len_257 {F : Int32 → zM} : z_len 257 F (hp I L ρ) = F (nI 12) (hp I L ρ) := h_len (by decide) (by decide) (by decide)
theorem la_258 {F : Int32 → zM} (h : j < 182) : z_la 20 258 (nI j) F (hp I L ρ) = F (I 258 j) (hp I L ρ) := h_la (by decide) rfl h (Nat.le_of_ble_eq_true rfl)
theorem sa_258 {x : Int32} (h : j < 182) : z_sa 20 258 (nI j) x f (hp I L ρ) = f (hp (u2 I 258 j x) L ρ) := h_sa (by decide) rfl h (Nat.le_of_ble_eq_true rfl)
theorem len_258 {F : Int32 → zM} : z_len 258 F (hp I L ρ) = F (nI 182) (hp I L ρ) := h_len (by decide) (by decide) (by decide)
theorem la_259 {F : Int32 → zM} (h : j < 12) : z_la 21 259 (nI j) F (hp I L ρ) = F (I 259 j) (hp I L ρ) := h_la (by decide) rfl h (Nat.le_of_ble_eq_true rfl)
theorem sa_259 {x : Int32} (h : j < 12) : z_sa 21 259 (nI j) x f (hp I L ρ) = f (hp (u2 I 259 j x) L ρ) := h_sa (by decide) rfl h (Nat.le_of_ble_eq_true rfl)
theorem len_259 {F : Int32 → zM} : z_len 259 F (hp I L ρ) = F (nI 12) (hp I L ρ) := h_len (by decide) (by decide) (by decide)
theorem la_260 {F : Int32 → zM} (h : j < 12) : z_la 20 260 (nI j) F (hp I L ρ) = F (I 260 j) (hp I L ρ) := h_la (by decide) rfl h (Nat.le_of_ble_eq_true rfl)
theorem sa_260 {x : Int32} (h : j < 12) : z_sa 20 260 (nI j) x f (hp I L ρ) = f (hp (u2 I 260 j x) L ρ) := h_sa (by decide) rfl h (Nat.le_of_ble_eq_true rfl)
theorem len_260 {F : Int32 → zM} : z_len 260 F (hp I L ρ) = F (nI 12) (hp I L ρ) := h_len (by decide) (by decide) (by decide)
theorem la_261 {F : Int32 → zM} (h : j < 448) : z_la 20 261 (nI j) F (hp I L ρ) = F (I 261 j) (hp I L ρ) := h_la (by decide) rfl h (Nat.le_of_ble_eq_true rfl)
theorem sa_261 {x : Int32} (h : j < 448) : z_sa 20 261 (nI j) x f (hp I L ρ) = f (hp (u2 I 261 j x) L ρ) := h_sa (by decide) rfl h (Nat.le_of_ble_eq_true rfl)
theorem len_261 {F : Int32 → zM} : z_len 261 F (hp I L ρ) = F (nI 448) (hp I L ρ) := h_len (by decide) (by decide) (by decide)
theorem la_262 {F : Int32 → zM} (h : j < 12) : z_la 20 262 (nI j) F (hp I L ρ) = F (I 262 j) (hp I L ρ) := h_la (by decide) rfl h (Nat.le_of_ble_eq_true rfl)
theorem sa_262 {x : Int32} (h : j < 12) : z_sa 20 262 (nI j) x f (hp I L ρ) = f (hp (u2 I 262 j x) L ρ) := h_sa (by decide) rfl h (Nat.le_of_ble_eq_true rfl)
theorem len_262 {F : Int32 → zM} : z_len 262 F (hp I L ρ) = F (nI 12) (hp I L ρ) := h_len (by decide) (by decide) (by decide)
theorem la_263 {F : Int32 → zM} (h : j < 36) : z_la 21 263 (nI j) F (hp I L ρ) = F (I 263 j) (hp I L ρ) := h_la (by decide) rfl h (Nat.le_of_ble_eq_true rfl)
theorem sa_263 {x : Int32} (h : j < 36) : z_sa 21 263 (nI j) x f (hp I L ρ) = f (hp (u2 I 263 j x) L ρ) := h_sa (by decide) rfl h (Nat.le_of_ble_eq_true rfl)
theorem len_263 {F : Int32 → zM} : z_len 263 F (hp I L ρ) = F (nI 36) (hp I L ρ) := h_len (by decide) (by decide) (by decide)
theorem la_264 {F : Int32 → zM} (h : j < 48) : z_la 20 264 (nI j) F (hp I L ρ) = F (I 264 j) (hp I L ρ) := h_la (by decide) rfl h (Nat.le_of_ble_eq_true rfl)
theorem sa_264 {x : Int32} (h : j < 48) : z_sa 20 264 (nI j) x f (hp I L ρ) = f (hp (u2 I 264 j x) L ρ) := h_sa (by decide) rfl h (Nat.le_of_ble_eq_true rfl)
theorem len_264 {F : Int32 → zM} : z_len 264 F (hp I L ρ) = F (nI 48) (hp I L ρ) := h_len (by decide) (by decide) (by decide)
theorem la_265 {F : Int32 → zM} (h : j < 310) : z_la 20 265 (nI j) F (hp I L ρ) = F (I 265 j) (hp I L ρ) := h_la (by decide) rfl h (Nat.le_of_ble_eq_true rfl)
theorem sa_265 {x : Int32} (h : j < 310) : z_sa 20 265 (nI j) x f (hp I L ρ) = f (hp (u2 I 265 j x) L ρ) := h_sa (by decide) rfl h (Nat.le_of_ble_eq_true rfl)
theorem len_265 {F : Int32 → zM} : z_len 265 F (hp I L ρ) = F (nI 310) (hp I L ρ) := h_len (by decide) (by decide) (by decide)
theorem la_266 {F : Int32 → zM} (h : j < 6860) : z_la 20 266 (nI j) F (hp I L ρ) = F (I 266 j) (hp I L ρ) := h_la (by decide) rfl h (Nat.le_of_ble_eq_true rfl)
theorem sa_266 {x : Int32} (h : j < 6860) : z_sa 20 266 (nI j) x f (hp I L ρ) = f (hp (u2 I 266 j x) L ρ) := h_sa (by decide) rfl h (Nat.le_of_ble_eq_true rfl)
theorem len_266 {F : Int32 → zM} : z_len 266 F (hp I L ρ) = F (nI 6860) (hp I L ρ) := h_len (by decide) (by decide) (by decide)
theorem la_267 {F : Int32 → zM} (h : j < 5) : z_la 22 267 (nI j) F (hp I L ρ) = F (I 267 j) (hp I L ρ) := h_la (by decide) rfl h (Nat.le_of_ble_eq_true rfl)
theorem sa_267 {x : Int32} (h : j < 5) : z_sa 22 267 (nI j) x f (hp I L ρ) = f (hp (u2 I 267 j x) L ρ) := h_sa (by decide) rfl h (Nat.le_of_ble_eq_true rfl)
theorem len_267 {F : Int32 → zM} : z_len 267 F (hp I L ρ) = F (nI 5) (hp I L ρ) := h_len (by decide) (by decide) (by decide)
theorem la_268 {F : Int32 → zM} (h : j < 4) : z_la 22 268 (nI j) F (hp I L ρ) = F (I 268 j) (hp I L ρ) := h_la (by decide) rfl h (Nat.le_of_ble_eq_true rfl)
theorem sa_268 {x : Int32} (h : j < 4) : z_sa 22 268 (nI j) x f (hp I L ρ) = f (hp (u2 I 268 j x) L ρ) := h_sa (by decide) rfl h (Nat.le_of_ble_eq_true rfl)
theorem len_268 {F : Int32 → zM} : z_len 268 F (hp I L ρ) = F (nI 4) (hp I L ρ) := h_len (by decide) (by decide) (by decide)
theorem la_269 {F : Int32 → zM} (h : j < 5) : z_la 22 269 (nI j) F (hp I L ρ) = F (I 269 j) (hp I L ρ) := h_la (by decide) rfl h (Nat.le_of_ble_eq_true rfl)
theorem sa_269 {x : Int32} (h : j < 5) : z_sa 22 269 (nI j) x f (hp I L ρ) = f (hp (u2 I 269 j x) L ρ) := h_sa (by decide) rfl h (Nat.le_of_ble_eq_true rfl)
theorem len_269 {F : Int32 → zM} : z_len 269 F (hp I L ρ) = F (nI 5) (hp I L ρ) := h_len (by decide) (by decide) (by decide)
theorem la_270 {F : Int32 → zM} (h : j < 5) : z_la 22 270 (nI j) F (hp I L ρ) = F (I 270 j) (hp I L ρ) := h_la (by decide) rfl h (Nat.le_of_ble_eq_true rfl)
theorem sa_270 {x : Int32} (h : j < 5) : z_sa 22 270 (nI j) x f (hp I L ρ) = f (hp (u2 I 270 j x) L ρ) := h_sa (by decide) rfl h (Nat.le_of_ble_eq_true rfl)
theorem len_270 {F : Int32 → zM} : z_len 270 F (hp I L ρ) = F (nI 5) (hp I L ρ) := h_len (by decide) (by decide) (by decide)
theorem la_271 {F : Int32 → zM} (h : j < 4) : z_la 22 271 (nI j) F (hp I L ρ) = F (I 271 j) (hp I L ρ) := h_la (by decide) rfl h (Nat.le_of_ble_eq_true rfl)
theorem sa_271 {x : Int32} (h : j < 4) : z_sa 22 271 (nI j) x f (hp I L ρ) = f (hp (u2 I 271 j x) L ρ) := h_sa (by decide) rfl h (Nat.le_of_ble_eq_true rfl)
theorem len_271 {F : Int32 → zM} : z_len 271 F (hp I L ρ) = F (nI 4) (hp I L ρ) := h_len (by decide) (by decide) (by decide)
theorem la_272 {F : Int32 → zM} (h : j < 5) : z_la 22 272 (nI j) F (hp I L ρ) = F (I 272 j) (hp I L ρ) := h_la (by decide) rfl h (Nat.le_of_ble_eq_true rfl)
theorem sa_272 {x : Int32} (h : j < 5) : z_sa 22 272 (nI j) x f (hp I L ρ) = f (hp (u2 I 272 j x) L ρ) := h_sa (by decide) rfl h (Nat.le_of_ble_eq_true rfl)
theorem len_272 {F : Int32 → zM} : z_len 272 F (hp I L ρ) = F (nI 5) (hp I L ρ) := h_len (by decide) (by decide) (by decide)
theorem la_273 {F : Int32 → zM} (h : j < 3) : z_la 22 273 (nI j) F (hp I L ρ) = F (I 273 j) (hp I L ρ) := h_la (by decide) rfl h (Nat.le_of_ble_eq_true rfl)
theorem sa_273 {x : Int32} (h : j < 3) : z_sa 22 273 (nI j) x f (hp I L ρ) = f (hp (u2 I 273 j x) L ρ) := h_sa (by decide) rfl h (Nat.le_of_ble_eq_true rfl)
theorem len_273 {F : Int32 → zM} : z_len 273 F (hp I L ρ) = F (nI 3) (hp I L ρ) := h_len (by decide) (by decide) (by decide)
theorem la_274 {F : Int32 → zM} (h : j < 3) : z_la 22 274 (nI j) F (hp I L ρ) = F (I 274 j) (hp I L ρ) := h_la (by decide) rfl h (Nat.le_of_ble_eq_true rfl)
theorem sa_274 {x : Int32} (h : j < 3) : z_sa 22 274 (nI j) x f (hp I L ρ) = f (hp (u2 I 274 j x) L ρ) := h_sa (by decide) rfl h (Nat.le_of_ble_eq_true rfl)
theorem len_274 {F : Int32 → zM} : z_len 274 F (hp I L ρ) = F (nI 3) (hp I L ρ) := h_len (by decide) (by decide) (by decide)
theorem la_275 {F : Int32 → zM} (h : j < 2) : z_la 22 275 (nI j) F (hp I L ρ) = F (I 275 j) (hp I L ρ) := h_la (by decide) rfl h (Nat.le_of_ble_eq_true rfl)
theorem sa_275 {x : Int32} (h : j < 2) : z_sa 22 275 (nI j) x f (hp I L ρ) = f (hp (u2 I 275 j x) L ρ) := h_sa (by decide) rfl h (Nat.le_of_ble_eq_true rfl)
theorem len_275 {F : Int32 → zM} : z_len 275 F (hp I L ρ) = F (nI 2) (hp I L ρ) := h_len (by decide) (by decide) (by decide)
theorem la_276 {F : Int32 → zM} (h : j < 3) : z_la 22 276 (nI j) F (hp I L ρ) = F (I 276 j) (hp I L ρ) := h_la (by decide) rfl h (Nat.le_of_ble_eq_true rfl)
theorem sa_276 {x : Int32} (h : j < 3) : z_sa 22 276 (nI j) x f (hp I L ρ) = f (hp (u2 I 276 j x) L ρ) := h_sa (by decide) rfl h (Nat.le_of_ble_eq_true rfl)
theorem len_276 {F : Int32 → zM} : z_len 276 F (hp I L ρ) = F (nI 3) (hp I L ρ) := h_len (by decide) (by decide) (by decide)
theorem la_277 {F : Int32 → zM} (h : j < 3) : z_la 22 277 (nI j) F (hp I L ρ) = F (I 277 j) (hp I L ρ) := h_la (by decide) rfl h (Nat.le_of_ble_eq_true rfl)
theorem sa_277 {x : Int32} (h : j < 3) : z_sa 22 277 (nI j) x f (hp I L ρ) = f (hp (u2 I 277 j x) L ρ) := h_sa (by decide) rfl h (Nat.le_of_ble_eq_true rfl)
theorem len_277 {F : Int32 → zM} : z_len 277 F (hp I L ρ) = F (nI 3) (hp I L ρ) := h_len (by decide) (by decide) (by decide)
theorem la_278 {F : Int32 → zM} (h : j < 3) : z_la 22 278 (nI j) F (hp I L ρ) = F (I 278 j) (hp I L ρ) := h_la (by decide) rfl h (Nat.le_of_ble_eq_true rfl)
theorem sa_278 {x : Int32} (h : j < 3) : z_sa 22 278 (nI j) x f (hp I L ρ) = f (hp (u2 I 278 j x) L ρ) := h_sa (by decide) rfl h (Nat.le_of_ble_eq_true rfl)
theorem len_278 {F : Int32 → zM} : z_len 278 F (hp I L ρ) = F (nI 3) (hp I L ρ) := h_len (by decide) (by decide) (by decide)
theorem la_279 {F : Int32 → zM} (h : j < 5) : z_la 22 279 (nI j) F (hp I L ρ) = F (I 279 j) (hp I L ρ) := h_la (by decide) rfl h (Nat.le_of_ble_eq_true rfl)
theorem sa_279 {x : Int32} (h : j < 5) : z_sa 22 279 (nI j) x f (hp I L ρ) = f (hp (u2 I 279 j x) L ρ) := h_sa (by decide) rfl h (Nat.le_of_ble_eq_true rfl)
theorem len_279 {F : Int32 → zM} : z_len 279 F (hp I L ρ) = F (nI 5) (hp I L ρ) := h_len (by decide) (by decide) (by decide)
theorem la_280 {F : Int32 → zM} (h : j < 6) : z_la 22 280 (nI j) F (hp I L ρ) = F (I 280 j) (hp I L ρ) := h_la (by decide) rfl h (Nat.le_of_ble_eq_true rfl)
theorem sa_280 {x : Int32} (h : j < 6) : z_sa 22 280 (nI j) x f (hp I L ρ) = f (hp (u2 I 280 j x) L ρ) := h_sa (by decide) rfl h (Nat.le_of_ble_eq_true rfl)
theorem len_280 {F : Int32 → zM} : z_len 280 F (hp I L ρ) = F (nI 6) (hp I L ρ) := h_len (by decide) (by decide) (by decide)
theorem la_281 {F : Int32 → zM} (h : j < 4) : z_la 22 281 (nI j) F (hp I L ρ) = F (I 281 j) (hp I L ρ) := h_la (by decide) rfl h (Nat.le_of_ble_eq_true rfl)
theorem sa_281 {x : Int32} (h : j < 4) : z_sa 22 281 (nI j) x f (hp I L ρ) = f (hp (u2 I 281 j x) L ρ) := h_sa (by decide) rfl h (Nat.le_of_ble_eq_true rfl)
theorem len_281 {F : Int32 → zM} : z_len 281 F (hp I L ρ) = F (nI 4) (hp I L ρ) := h_len (by decide) (by decide) (by decide)
theorem la_282 {F : Int32 → zM} (h : j < 4) : z_la 22 282 (nI j) F (hp I L ρ) = F (I 282 j) (hp I L ρ) := h_la (by decide) rfl h (Nat.le_of_ble_eq_true rfl)
theorem sa_282 {x : Int32} (h : j < 4) : z_sa 22 282 (nI j) x f (hp I L ρ) = f (hp (u2 I 282 j x) L ρ) := h_sa (by decide) rfl h (Nat.le_of_ble_eq_true rfl)
theorem len_282 {F : Int32 → zM} : z_len 282 F (hp I L ρ) = F (nI 4) (hp I L ρ) := h_len (by decide) (by decide) (by decide)
theorem la_283 {F : Int32 → zM} (h : j < 4) : z_la 22 283 (nI j) F (hp I L ρ) = F (I 283 j) (hp I L ρ) := h_la (by decide) rfl h (Nat.le_of_ble_eq_true rfl)
theorem sa_283 {x : Int32} (h : j < 4) : z_sa 22 283 (nI j) x f (hp I L ρ) = f (hp (u2 I 283 j x) L ρ) := h_sa (by decide) rfl h (Nat.le_of_ble_eq_true rfl)
theorem len_283 {F : Int32 → zM} : z_len 283 F (hp I L ρ) = F (nI 4) (hp I L ρ) := h_len (by decide) (by decide) (by decide)
theorem la_284 {F : Int32 → zM} (h : j < 6) : z_la 22 284 (nI j) F (hp I L ρ) = F (I 284 j) (hp I L ρ) := h_la (by decide) rfl h (Nat.le_of_ble_eq_true rfl)
theorem sa_284 {x : Int32} (h : j < 6) : z_sa 22 284 (nI j) x f (hp I L ρ) = f (hp (u2 I 284 j x) L ρ) := h_sa (by decide) rfl h (Nat.le_of_ble_eq_true rfl)
theorem len_284 {F : Int32 → zM} : z_len 284 F (hp I L ρ) = F (nI 6) (hp I L ρ) := h_len (by decide) (by decide) (by decide)
theorem la_285 {F : Int32 → zM} (h : j < 4) : z_la 22 285 (nI j) F (hp I L ρ) = F (I 285 j) (hp I L ρ) := h_la (by decide) rfl h (Nat.le_of_ble_eq_true rfl)
theorem sa_285 {x : Int32} (h : j < 4) : z_sa 22 285 (nI j) x f (hp I L ρ) = f (hp (u2 I 285 j x) L ρ) := h_sa (by decide) rfl h (Nat.le_of_ble_eq_true rfl)
theorem len_285 {F : Int32 → zM} : z_len 285 F (hp I L ρ) = F (nI 4) (hp I L ρ) := h_len (by decide) (by decide) (by decide)
theorem la_286 {F : Int32 → zM} (h : j < 5) : z_la 22 286 (nI j) F (hp I L ρ) = F (I 286 j) (hp I L ρ) := h_la (by decide) rfl h (Nat.le_of_ble_eq_true rfl)
theorem sa_286 {x : Int32} (h : j < 5) : z_sa 22 286 (nI j) x f (hp I L ρ) = f (hp (u2 I 286 j x) L ρ) := h_sa (by decide) rfl h (Nat.le_of_ble_eq_true rfl)
theorem len_286 {F : Int32 → zM} : z_len 286 F (hp I L ρ) = F (nI 5) (hp I L ρ) := h_len (by decide) (by decide) (by decide)
theorem la_287 {F : Int32 → zM} (h : j < 6) : z_la 22 287 (nI j) F (hp I L ρ) = F (I 287 j) (hp I L ρ) := h_la (by decide) rfl h (Nat.le_of_ble_eq_true rfl)
theorem sa_287 {x : Int32} (h : j < 6) : z_sa 22 287 (nI j) x f (hp I L ρ) = f (hp (u2 I 287 j x) L ρ) := h_sa (by decide) rfl h (Nat.le_of_ble_eq_true rfl)
theorem len_287 {F : Int32 → zM} : z_len 287 F (hp I L ρ) = F (nI 6) (hp I L ρ) := h_len (by decide) (by decide) (by decide)
theorem la_288 {F : Int32 → zM} (h : j < 6) : z_la 22 288 (nI j) F (hp I L ρ) = F (I 288 j) (hp I L ρ) := h_la (by decide) rfl h (Nat.le_of_ble_eq_true rfl)
theorem sa_288 {x : Int32} (h : j < 6) : z_sa 22 288 (nI j) x f (hp I L ρ) = f (hp (u2 I 288 j x) L ρ) := h_sa (by decide) rfl h (Nat.le_of_ble_eq_true rfl)
theorem len_288 {F : Int32 → zM} : z_len 288 F (hp I L ρ) = F (nI 6) (hp I L ρ) := h_len (by decide) (by decide) (by decide)
theorem la_289 {F : Int32 → zM} (h : j < 4) : z_la 22 289 (nI j) F (hp I L ρ) = F (I 289 j) (hp I L ρ) := h_la (by decide) rfl h (Nat.le_of_ble_eq_true rfl)
theorem sa_289 {x : Int32} (h : j < 4) : z_sa 22 289 (nI j) x f (hp I L ρ) = f (hp (u2 I 289 j x) L ρ) := h_sa (by decide) rfl h (Nat.le_of_ble_eq_true rfl)
theorem len_289 {F : Int32 → zM} : z_len 289 F (hp I L ρ) = F (nI 4) (hp I L ρ) := h_len (by decide) (by decide) (by decide)
theorem la_290 {F : Int32 → zM} (h : j < 3) : z_la 22 290 (nI j) F (hp I L ρ) = F (I 290 j) (hp I L ρ) := h_la (by decide) rfl h (Nat.le_of_ble_eq_true rfl)
theorem sa_290 {x : Int32} (h : j < 3) : z_sa 22 290 (nI j) x f (hp I L ρ) = f (hp (u2 I 290 j x) L ρ) := h_sa (by decide) rfl h (Nat.le_of_ble_eq_true rfl)
theorem len_290 {F : Int32 → zM} : z_len 290 F (hp I L ρ) = F (nI 3) (hp I L ρ) := h_len (by decide) (by decide) (by decide)
theorem la_291 {F : Int32 → zM} (h : j < 5) : z_la 22 291 (nI j) F (hp I L ρ) = F (I 291 j) (hp I L ρ) := h_la (by decide) rfl h (Nat.le_of_ble_eq_true rfl)
theorem sa_291 {x : Int32} (h : j < 5) : z_sa 22 291 (nI j) x f (hp I L ρ) = f (hp (u2 I 291 j x) L ρ) := h_sa (by decide) rfl h (Nat.le_of_ble_eq_true rfl)
theorem len_291 {F : Int32 → zM} : z_len 291 F (hp I L ρ) = F (nI 5) (hp I L ρ) := h_len (by decide) (by decide) (by decide)
theorem la_292 {F : Int32 → zM} (h : j < 5) : z_la 22 292 (nI j) F (hp I L ρ) = F (I 292 j) (hp I L ρ) := h_la (by decide) rfl h (Nat.le_of_ble_eq_true rfl)
theorem sa_292 {x : Int32} (h : j < 5) : z_sa 22 292 (nI j) x f (hp I L ρ) = f (hp (u2 I 292 j x) L ρ) := h_sa (by decide) rfl h (Nat.le_of_ble_eq_true rfl)
theorem len_292 {F : Int32 → zM} : z_len 292 F (hp I L ρ) = F (nI 5) (hp I L ρ) := h_len (by decide) (by decide) (by decide)
theorem la_293 {F : Int32 → zM} (h : j < 1700) : z_la 20 293 (nI j) F (hp I L ρ) = F (I 293 j) (hp I L ρ) := h_la (by decide) rfl h (Nat.le_of_ble_eq_true rfl)
theorem sa_293 {x : Int32} (h : j < 1700) : z_sa 20 293 (nI j) x f (hp I L ρ) = f (hp (u2 I 293 j x) L ρ) := h_sa (by decide) rfl h (Nat.le_of_ble_eq_true rfl)
theorem len_293 {F : Int32 → zM} : z_len 293 F (hp I L ρ) = F (nI 1700) (hp I L ρ) := h_len (by decide) (by decide) (by decide)
theorem la_294 {F : Int32 → zM} (h : j < 1700) : z_la 20 294 (nI j) F (hp I L ρ) = F (I 294 j) (hp I L ρ) := h_la (by decide) rfl h (Nat.le_of_ble_eq_true rfl)
theorem sa_294 {x : Int32} (h : j < 1700) : z_sa 20 294 (nI j) x f (hp I L ρ) = f (hp (u2 I 294 j x) L ρ) := h_sa (by decide) rfl h (Nat.le_of_ble_eq_true rfl)
theorem len_294 {F : Int32 → zM} : z_len 294 F (hp I L ρ) = F (nI 1700) (hp I L ρ) := h_len (by decide) (by decide) (by decide)
theorem ll_295 {F : Int64 → zM} (h : j < 1700) : z_ll 295 (nI j) F (hp I L ρ) = F (L 295 j) (hp I L ρ) := h_ll (by decide) rfl h (Nat.le_of_ble_eq_true rfl)
theorem sl_295 {x : Int64} (h : j < 1700) : z_sl 295 (nI j) x f (hp I L ρ) = f (hp I (u2 L 295 j x) ρ) := h_sl (by decide) rfl h (Nat.le_of_ble_eq_true rfl)
theorem la_296 {F : Int32 → zM} (h : j < 184) : z_la 20 296 (nI j) F (hp I L ρ) = F (I 296 j) (hp I L ρ) := h_la (by decide) rfl h (Nat.le_of_ble_eq_true rfl)
theorem sa_296 {x : Int32} (h : j < 184) : z_sa 20 296 (nI j) x f (hp I L ρ) = f (hp (u2 I 296 j x) L ρ) := h_sa (by decide) rfl h (Nat.le_of_ble_eq_true rfl)
theorem len_296 {F : Int32 → zM} : z_len 296 F (hp I L ρ) = F (nI 184) (hp I L ρ) := h_len (by decide) (by decide) (by decide)
variable {t a : Nat}
theorem lal_0 {F : Int32 → zM} : z_la t a 0 F = z_la t a (nI 0) F := rfl
theorem sal_0 {x : Int32} : z_sa t a 0 x f = z_sa t a (nI 0) x f := rfl
theorem lll_0 {F : Int64 → zM} : z_ll a 0 F = z_ll a (nI 0) F := rfl
theorem lal_1 {F : Int32 → zM} : z_la t a 1 F = z_la t a (nI 1) F := rfl
theorem sal_1 {x : Int32} : z_sa t a 1 x f = z_sa t a (nI 1) x f := rfl
theorem lll_1 {F : Int64 → zM} : z_ll a 1 F = z_ll a (nI 1) F := rfl
theorem lal_2 {F : Int32 → zM} : z_la t a 2 F = z_la t a (nI 2) F := rfl
theorem sal_2 {x : Int32} : z_sa t a 2 x f = z_sa t a (nI 2) x f := rfl
theorem lll_2 {F : Int64 → zM} : z_ll a 2 F = z_ll a (nI 2) F := rfl
theorem lal_3 {F : Int32 → zM} : z_la t a 3 F = z_la t a (nI 3) F := rfl
theorem sal_3 {x : Int32} : z_sa t a 3 x f = z_sa t a (nI 3) x f := rfl
theorem lll_3 {F : Int64 → zM} : z_ll a 3 F = z_ll a (nI 3) F := rfl
theorem lal_4 {F : Int32 → zM} : z_la t a 4 F = z_la t a (nI 4) F := rfl
theorem sal_4 {x : Int32} : z_sa t a 4 x f = z_sa t a (nI 4) x f := rfl
theorem lll_4 {F : Int64 → zM} : z_ll a 4 F = z_ll a (nI 4) F := rfl
theorem lal_5 {F : Int32 → zM} : z_la t a 5 F = z_la t a (nI 5) F := rfl
theorem sal_5 {x : Int32} : z_sa t a 5 x f = z_sa t a (nI 5) x f := rfl
theorem lll_5 {F : Int64 → zM} : z_ll a 5 F = z_ll a (nI 5) F := rfl
theorem lal_6 {F : Int32 → zM} : z_la t a 6 F = z_la t a (nI 6) F := rfl
theorem sal_6 {x : Int32} : z_sa t a 6 x f = z_sa t a (nI 6) x f := rfl
theorem lll_6 {F : Int64 → zM} : z_ll a 6 F = z_ll a (nI 6) F := rfl
theorem lal_7 {F : Int32 → zM} : z_la t a 7 F = z_la t a (nI 7) F := rfl
theorem sal_7 {x : Int32} : z_sa t a 7 x f = z_sa t a (nI 7) x f := rfl
theorem lll_7 {F : Int64 → zM} : z_ll a 7 F = z_ll a (nI 7) F := rfl
theorem lal_8 {F : Int32 → zM} : z_la t a 8 F = z_la t a (nI 8) F := rfl
theorem sal_8 {x : Int32} : z_sa t a 8 x f = z_sa t a (nI 8) x f := rfl
theorem lll_8 {F : Int64 → zM} : z_ll a 8 F = z_ll a (nI 8) F := rfl
theorem lal_9 {F : Int32 → zM} : z_la t a 9 F = z_la t a (nI 9) F := rfl
theorem sal_9 {x : Int32} : z_sa t a 9 x f = z_sa t a (nI 9) x f := rfl
theorem lll_9 {F : Int64 → zM} : z_ll a 9 F = z_ll a (nI 9) F := rfl
theorem lal_10 {F : Int32 → zM} : z_la t a 10 F = z_la t a (nI 10) F := rfl
theorem sal_10 {x : Int32} : z_sa t a 10 x f = z_sa t a (nI 10) x f := rfl
theorem lll_10 {F : Int64 → zM} : z_ll a 10 F = z_ll a (nI 10) F := rfl
theorem lal_11 {F : Int32 → zM} : z_la t a 11 F = z_la t a (nI 11) F := rfl
theorem sal_11 {x : Int32} : z_sa t a 11 x f = z_sa t a (nI 11) x f := rfl
theorem lll_11 {F : Int64 → zM} : z_ll a 11 F = z_ll a (nI 11) F := rfl
theorem lal_12 {F : Int32 → zM} : z_la t a 12 F = z_la t a (nI 12) F := rfl
theorem sal_12 {x : Int32} : z_sa t a 12 x f = z_sa t a (nI 12) x f := rfl
theorem lll_12 {F : Int64 → zM} : z_ll a 12 F = z_ll a (nI 12) F := rfl
theorem lal_13 {F : Int32 → zM} : z_la t a 13 F = z_la t a (nI 13) F := rfl
theorem sal_13 {x : Int32} : z_sa t a 13 x f = z_sa t a (nI 13) x f := rfl
theorem lll_13 {F : Int64 → zM} : z_ll a 13 F = z_ll a (nI 13) F := rfl
theorem lal_14 {F : Int32 → zM} : z_la t a 14 F = z_la t a (nI 14) F := rfl
theorem sal_14 {x : Int32} : z_sa t a 14 x f = z_sa t a (nI 14) x f := rfl
theorem lll_14 {F : Int64 → zM} : z_ll a 14 F = z_ll a (nI 14) F := rfl
theorem lal_15 {F : Int32 → zM} : z_la t a 15 F = z_la t a (nI 15) F := rfl
theorem sal_15 {x : Int32} : z_sa t a 15 x f = z_sa t a (nI 15) x f := rfl
theorem lll_15 {F : Int64 → zM} : z_ll a 15 F = z_ll a (nI 15) F := rfl
theorem lal_16 {F : Int32 → zM} : z_la t a 16 F = z_la t a (nI 16) F := rfl
theorem sal_16 {x : Int32} : z_sa t a 16 x f = z_sa t a (nI 16) x f := rfl
theorem lll_16 {F : Int64 → zM} : z_ll a 16 F = z_ll a (nI 16) F := rfl
theorem lal_17 {F : Int32 → zM} : z_la t a 17 F = z_la t a (nI 17) F := rfl
theorem sal_17 {x : Int32} : z_sa t a 17 x f = z_sa t a (nI 17) x f := rfl
theorem lll_17 {F : Int64 → zM} : z_ll a 17 F = z_ll a (nI 17) F := rfl
theorem lal_18 {F : Int32 → zM} : z_la t a 18 F = z_la t a (nI 18) F := rfl
theorem sal_18 {x : Int32} : z_sa t a 18 x f = z_sa t a (nI 18) x f := rfl
theorem lll_18 {F : Int64 → zM} : z_ll a 18 F = z_ll a (nI 18) F := rfl
theorem lal_19 {F : Int32 → zM} : z_la t a 19 F = z_la t a (nI 19) F := rfl
theorem sal_19 {x : Int32} : z_sa t a 19 x f = z_sa t a (nI 19) x f := rfl
theorem lll_19 {F : Int64 → zM} : z_ll a 19 F = z_ll a (nI 19) F := rfl
theorem lal_20 {F : Int32 → zM} : z_la t a 20 F = z_la t a (nI 20) F := rfl
theorem sal_20 {x : Int32} : z_sa t a 20 x f = z_sa t a (nI 20) x f := rfl
theorem lll_20 {F : Int64 → zM} : z_ll a 20 F = z_ll a (nI 20) F := rfl
end ZB2
