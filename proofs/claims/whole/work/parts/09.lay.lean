/-! ===== where references point, once all is made; what the layout says of each role ===== -/
def rfT : List (List (Option Nat)) := [[some 1, some 3, some 9, some 13, some 17, some 179, some 180, some 183, some 196, some 199, some 215, none], [some 2, none], [], [none, none, some 4, none, none, none], [some 5, some 6, some 7, some 8, none], [], [], [], [], [none, none, none, none, some 10, some 11, some 12], [], [], [], [none, none, none, none, some 14, some 15, some 16], [], [], [], [none, some 18, none], [some 19, some 23, some 27, some 31, some 35, some 39, some 43, some 47, some 51, some 55, some 59, some 63, some 67, some 71, some 75, some 79, some 83, some 87, some 91, some 95, some 99, some 103, some 107, some 111, some 115, some 119, some 123, some 127, some 131, some 135, some 139, some 143, some 147, some 151, some 155, some 159, some 163, some 167, some 171, some 175], [none, none, none, none, some 20, some 21, some 22], [], [], [], [none, none, none, none, some 24, some 25, some 26], [], [], [], [none, none, none, none, some 28, some 29, some 30], [], [], [], [none, none, none, none, some 32, some 33, some 34], [], [], [], [none, none, none, none, some 36, some 37, some 38], [], [], [], [none, none, none, none, some 40, some 41, some 42], [], [], [], [none, none, none, none, some 44, some 45, some 46], [], [], [], [none, none, none, none, some 48, some 49, some 50], [], [], [], [none, none, none, none, some 52, some 53, some 54], [], [], [], [none, none, none, none, some 56, some 57, some 58], [], [], [], [none, none, none, none, some 60, some 61, some 62], [], [], [], [none, none, none, none, some 64, some 65, some 66], [], [], [], [none, none, none, none, some 68, some 69, some 70], [], [], [], [none, none, none, none, some 72, some 73, some 74], [], [], [], [none, none, none, none, some 76, some 77, some 78], [], [], [], [none, none, none, none, some 80, some 81, some 82], [], [], [], [none, none, none, none, some 84, some 85, some 86], [], [], [], [none, none, none, none, some 88, some 89, some 90], [], [], [], [none, none, none, none, some 92, some 93, some 94], [], [], [], [none, none, none, none, some 96, some 97, some 98], [], [], [], [none, none, none, none, some 100, some 101, some 102], [], [], [], [none, none, none, none, some 104, some 105, some 106], [], [], [], [none, none, none, none, some 108, some 109, some 110], [], [], [], [none, none, none, none, some 112, some 113, some 114], [], [], [], [none, none, none, none, some 116, some 117, some 118], [], [], [], [none, none, none, none, some 120, some 121, some 122], [], [], [], [none, none, none, none, some 124, some 125, some 126], [], [], [], [none, none, none, none, some 128, some 129, some 130], [], [], [], [none, none, none, none, some 132, some 133, some 134], [], [], [], [none, none, none, none, some 136, some 137, some 138], [], [], [], [none, none, none, none, some 140, some 141, some 142], [], [], [], [none, none, none, none, some 144, some 145, some 146], [], [], [], [none, none, none, none, some 148, some 149, some 150], [], [], [], [none, none, none, none, some 152, some 153, some 154], [], [], [], [none, none, none, none, some 156, some 157, some 158], [], [], [], [none, none, none, none, some 160, some 161, some 162], [], [], [], [none, none, none, none, some 164, some 165, some 166], [], [], [], [none, none, none, none, some 168, some 169, some 170], [], [], [], [none, none, none, none, some 172, some 173, some 174], [], [], [], [none, none, none, none, some 176, some 177, some 178], [], [], [], [some 231, some 235, some 239], [some 181, some 182], [], [], [some 184, some 189, some 195], [some 185, some 186, some 187, some 188], [], [], [], [], [some 190, some 191, some 192, some 193, some 194], [], [], [], [], [], [], [none, some 197, some 198], [], [], [none, some 200, some 201, none, some 202, some 203, some 204, none, none, none, some 205, some 209, some 210, some 211, some 212, some 213, some 214], [], [], [], [], [], [some 206, some 207, some 208, none], [], [], [], [], [], [], [], [], [], [none, some 216, some 217, none, some 218, some 219, some 220, none, none, none, some 221, some 225, some 226, some 227, some 228, some 229, some 230], [], [], [], [], [], [some 222, some 223, some 224, none], [], [], [], [], [], [], [], [], [], [none, none, none, none, some 232, some 233, some 234], [], [], [], [none, none, none, none, some 236, some 237, some 238], [], [], [], [none, none, none, none, some 240, some 241, some 242], [], [], [], [none, some 244, none, some 245, none, some 246, some 247, some 248, some 249, some 250, none, none, none, none, none, none, none, none, none, none, none, some 251, some 252, some 253, some 254, some 255, some 256, some 257, some 258, some 259, some 260, some 261, some 262, some 263, some 264, some 265, none, some 266, some 267, some 268, some 269, some 270, none, some 271, some 272, some 273, none, some 274, some 275, none, some 276, some 277, none, none, some 278, some 279, none, some 280, some 281, some 282, some 283, some 284, none, some 285, some 286, some 287, some 288], [], [], [], [], [], [], [], [], [], [], [], [], [], [], [], [], [], [], [], [], [], [], [], [], [], [], [], [], [], [], [], [], [], [], [], [], [], [], [], [], [], [], [], [], []]
def Rf0 (a j : Nat) : Option Nat := match rfT[a]? with
  | some l => (match l[j]? with | some x => x | none => none)
  | none => none
abbrev ush (x y : Int32) : Int32 := (x.toUInt32 >>> (y.toUInt32 &&& Int32.toUInt32 31)).toInt32
abbrev lsh (x : Int64) (y : Int32) : Int64 := x <<< (y.toInt64 &&& 63)
abbrev lush (x : Int64) (y : Int32) : Int64 := (x.toUInt64 >>> (y.toInt64.toUInt64 &&& Int64.toUInt64 63)).toInt64
abbrev i2c (x : Int32) : Int32 := (x.toUInt32 % 65536).toInt32
abbrev irm (x y : Int32) : Int32 := x - x / y * y
theorem ly_0 : lay 0 = .inl 10 := by decide +kernel
theorem ly_1 : lay 1 = .inl 6 := by decide +kernel
theorem ly_2 : lay 2 = .inr (2, 2000) := by decide +kernel
theorem ly_3 : lay 3 = .inl 4 := by decide +kernel
theorem ly_4 : lay 4 = .inl 8 := by decide +kernel
theorem ly_5 : lay 5 = .inr (0, 402) := by decide +kernel
theorem ly_6 : lay 6 = .inr (0, 402) := by decide +kernel
theorem ly_7 : lay 7 = .inr (1, 402) := by decide +kernel
theorem ly_8 : lay 8 = .inr (1, 21) := by decide +kernel
theorem ly_9 : lay 9 = .inl 5 := by decide +kernel
theorem ly_10 : lay 10 = .inr (0, 4) := by decide +kernel
theorem ly_11 : lay 11 = .inr (0, 4) := by decide +kernel
theorem ly_12 : lay 12 = .inr (0, 7) := by decide +kernel
theorem ly_13 : lay 13 = .inl 5 := by decide +kernel
theorem ly_14 : lay 14 = .inr (0, 4) := by decide +kernel
theorem ly_15 : lay 15 = .inr (0, 4) := by decide +kernel
theorem ly_16 : lay 16 = .inr (0, 7) := by decide +kernel
theorem ly_17 : lay 17 = .inl 9 := by decide +kernel
theorem ly_18 : lay 18 = .inr (4, 40) := by decide +kernel
theorem ly_19 : lay 19 = .inl 5 := by decide +kernel
theorem ly_20 : lay 20 = .inr (0, 4) := by decide +kernel
theorem ly_21 : lay 21 = .inr (0, 4) := by decide +kernel
theorem ly_22 : lay 22 = .inr (0, 7) := by decide +kernel
theorem ly_23 : lay 23 = .inl 5 := by decide +kernel
theorem ly_24 : lay 24 = .inr (0, 4) := by decide +kernel
theorem ly_25 : lay 25 = .inr (0, 4) := by decide +kernel
theorem ly_26 : lay 26 = .inr (0, 7) := by decide +kernel
theorem ly_27 : lay 27 = .inl 5 := by decide +kernel
theorem ly_28 : lay 28 = .inr (0, 4) := by decide +kernel
theorem ly_29 : lay 29 = .inr (0, 4) := by decide +kernel
theorem ly_30 : lay 30 = .inr (0, 7) := by decide +kernel
theorem ly_31 : lay 31 = .inl 5 := by decide +kernel
theorem ly_32 : lay 32 = .inr (0, 4) := by decide +kernel
theorem ly_33 : lay 33 = .inr (0, 4) := by decide +kernel
theorem ly_34 : lay 34 = .inr (0, 7) := by decide +kernel
theorem ly_35 : lay 35 = .inl 5 := by decide +kernel
theorem ly_36 : lay 36 = .inr (0, 4) := by decide +kernel
theorem ly_37 : lay 37 = .inr (0, 4) := by decide +kernel
theorem ly_38 : lay 38 = .inr (0, 7) := by decide +kernel
theorem ly_39 : lay 39 = .inl 5 := by decide +kernel
theorem ly_40 : lay 40 = .inr (0, 4) := by decide +kernel
theorem ly_41 : lay 41 = .inr (0, 4) := by decide +kernel
theorem ly_42 : lay 42 = .inr (0, 7) := by decide +kernel
theorem ly_43 : lay 43 = .inl 5 := by decide +kernel
theorem ly_44 : lay 44 = .inr (0, 4) := by decide +kernel
theorem ly_45 : lay 45 = .inr (0, 4) := by decide +kernel
theorem ly_46 : lay 46 = .inr (0, 7) := by decide +kernel
theorem ly_47 : lay 47 = .inl 5 := by decide +kernel
theorem ly_48 : lay 48 = .inr (0, 4) := by decide +kernel
theorem ly_49 : lay 49 = .inr (0, 4) := by decide +kernel
theorem ly_50 : lay 50 = .inr (0, 7) := by decide +kernel
theorem ly_51 : lay 51 = .inl 5 := by decide +kernel
theorem ly_52 : lay 52 = .inr (0, 4) := by decide +kernel
theorem ly_53 : lay 53 = .inr (0, 4) := by decide +kernel
theorem ly_54 : lay 54 = .inr (0, 7) := by decide +kernel
theorem ly_55 : lay 55 = .inl 5 := by decide +kernel
theorem ly_56 : lay 56 = .inr (0, 4) := by decide +kernel
theorem ly_57 : lay 57 = .inr (0, 4) := by decide +kernel
theorem ly_58 : lay 58 = .inr (0, 7) := by decide +kernel
theorem ly_59 : lay 59 = .inl 5 := by decide +kernel
theorem ly_60 : lay 60 = .inr (0, 4) := by decide +kernel
theorem ly_61 : lay 61 = .inr (0, 4) := by decide +kernel
theorem ly_62 : lay 62 = .inr (0, 7) := by decide +kernel
theorem ly_63 : lay 63 = .inl 5 := by decide +kernel
theorem ly_64 : lay 64 = .inr (0, 4) := by decide +kernel
theorem ly_65 : lay 65 = .inr (0, 4) := by decide +kernel
theorem ly_66 : lay 66 = .inr (0, 7) := by decide +kernel
theorem ly_67 : lay 67 = .inl 5 := by decide +kernel
theorem ly_68 : lay 68 = .inr (0, 4) := by decide +kernel
theorem ly_69 : lay 69 = .inr (0, 4) := by decide +kernel
theorem ly_70 : lay 70 = .inr (0, 7) := by decide +kernel
theorem ly_71 : lay 71 = .inl 5 := by decide +kernel
theorem ly_72 : lay 72 = .inr (0, 4) := by decide +kernel
theorem ly_73 : lay 73 = .inr (0, 4) := by decide +kernel
theorem ly_74 : lay 74 = .inr (0, 7) := by decide +kernel
theorem ly_75 : lay 75 = .inl 5 := by decide +kernel
theorem ly_76 : lay 76 = .inr (0, 4) := by decide +kernel
theorem ly_77 : lay 77 = .inr (0, 4) := by decide +kernel
theorem ly_78 : lay 78 = .inr (0, 7) := by decide +kernel
theorem ly_79 : lay 79 = .inl 5 := by decide +kernel
theorem ly_80 : lay 80 = .inr (0, 4) := by decide +kernel
theorem ly_81 : lay 81 = .inr (0, 4) := by decide +kernel
theorem ly_82 : lay 82 = .inr (0, 7) := by decide +kernel
theorem ly_83 : lay 83 = .inl 5 := by decide +kernel
theorem ly_84 : lay 84 = .inr (0, 4) := by decide +kernel
theorem ly_85 : lay 85 = .inr (0, 4) := by decide +kernel
theorem ly_86 : lay 86 = .inr (0, 7) := by decide +kernel
theorem ly_87 : lay 87 = .inl 5 := by decide +kernel
theorem ly_88 : lay 88 = .inr (0, 4) := by decide +kernel
theorem ly_89 : lay 89 = .inr (0, 4) := by decide +kernel
theorem ly_90 : lay 90 = .inr (0, 7) := by decide +kernel
theorem ly_91 : lay 91 = .inl 5 := by decide +kernel
theorem ly_92 : lay 92 = .inr (0, 4) := by decide +kernel
theorem ly_93 : lay 93 = .inr (0, 4) := by decide +kernel
theorem ly_94 : lay 94 = .inr (0, 7) := by decide +kernel
theorem ly_95 : lay 95 = .inl 5 := by decide +kernel
theorem ly_96 : lay 96 = .inr (0, 4) := by decide +kernel
theorem ly_97 : lay 97 = .inr (0, 4) := by decide +kernel
theorem ly_98 : lay 98 = .inr (0, 7) := by decide +kernel
theorem ly_99 : lay 99 = .inl 5 := by decide +kernel
theorem ly_100 : lay 100 = .inr (0, 4) := by decide +kernel
theorem ly_101 : lay 101 = .inr (0, 4) := by decide +kernel
theorem ly_102 : lay 102 = .inr (0, 7) := by decide +kernel
theorem ly_103 : lay 103 = .inl 5 := by decide +kernel
theorem ly_104 : lay 104 = .inr (0, 4) := by decide +kernel
theorem ly_105 : lay 105 = .inr (0, 4) := by decide +kernel
theorem ly_106 : lay 106 = .inr (0, 7) := by decide +kernel
theorem ly_107 : lay 107 = .inl 5 := by decide +kernel
theorem ly_108 : lay 108 = .inr (0, 4) := by decide +kernel
theorem ly_109 : lay 109 = .inr (0, 4) := by decide +kernel
theorem ly_110 : lay 110 = .inr (0, 7) := by decide +kernel
theorem ly_111 : lay 111 = .inl 5 := by decide +kernel
theorem ly_112 : lay 112 = .inr (0, 4) := by decide +kernel
theorem ly_113 : lay 113 = .inr (0, 4) := by decide +kernel
theorem ly_114 : lay 114 = .inr (0, 7) := by decide +kernel
theorem ly_115 : lay 115 = .inl 5 := by decide +kernel
theorem ly_116 : lay 116 = .inr (0, 4) := by decide +kernel
theorem ly_117 : lay 117 = .inr (0, 4) := by decide +kernel
theorem ly_118 : lay 118 = .inr (0, 7) := by decide +kernel
theorem ly_119 : lay 119 = .inl 5 := by decide +kernel
theorem ly_120 : lay 120 = .inr (0, 4) := by decide +kernel
theorem ly_121 : lay 121 = .inr (0, 4) := by decide +kernel
theorem ly_122 : lay 122 = .inr (0, 7) := by decide +kernel
theorem ly_123 : lay 123 = .inl 5 := by decide +kernel
theorem ly_124 : lay 124 = .inr (0, 4) := by decide +kernel
theorem ly_125 : lay 125 = .inr (0, 4) := by decide +kernel
theorem ly_126 : lay 126 = .inr (0, 7) := by decide +kernel
theorem ly_127 : lay 127 = .inl 5 := by decide +kernel
theorem ly_128 : lay 128 = .inr (0, 4) := by decide +kernel
theorem ly_129 : lay 129 = .inr (0, 4) := by decide +kernel
theorem ly_130 : lay 130 = .inr (0, 7) := by decide +kernel
theorem ly_131 : lay 131 = .inl 5 := by decide +kernel
theorem ly_132 : lay 132 = .inr (0, 4) := by decide +kernel
theorem ly_133 : lay 133 = .inr (0, 4) := by decide +kernel
theorem ly_134 : lay 134 = .inr (0, 7) := by decide +kernel
theorem ly_135 : lay 135 = .inl 5 := by decide +kernel
theorem ly_136 : lay 136 = .inr (0, 4) := by decide +kernel
theorem ly_137 : lay 137 = .inr (0, 4) := by decide +kernel
theorem ly_138 : lay 138 = .inr (0, 7) := by decide +kernel
theorem ly_139 : lay 139 = .inl 5 := by decide +kernel
theorem ly_140 : lay 140 = .inr (0, 4) := by decide +kernel
theorem ly_141 : lay 141 = .inr (0, 4) := by decide +kernel
theorem ly_142 : lay 142 = .inr (0, 7) := by decide +kernel
theorem ly_143 : lay 143 = .inl 5 := by decide +kernel
theorem ly_144 : lay 144 = .inr (0, 4) := by decide +kernel
theorem ly_145 : lay 145 = .inr (0, 4) := by decide +kernel
theorem ly_146 : lay 146 = .inr (0, 7) := by decide +kernel
theorem ly_147 : lay 147 = .inl 5 := by decide +kernel
theorem ly_148 : lay 148 = .inr (0, 4) := by decide +kernel
theorem ly_149 : lay 149 = .inr (0, 4) := by decide +kernel
theorem ly_150 : lay 150 = .inr (0, 7) := by decide +kernel
theorem ly_151 : lay 151 = .inl 5 := by decide +kernel
theorem ly_152 : lay 152 = .inr (0, 4) := by decide +kernel
theorem ly_153 : lay 153 = .inr (0, 4) := by decide +kernel
theorem ly_154 : lay 154 = .inr (0, 7) := by decide +kernel
theorem ly_155 : lay 155 = .inl 5 := by decide +kernel
theorem ly_156 : lay 156 = .inr (0, 4) := by decide +kernel
theorem ly_157 : lay 157 = .inr (0, 4) := by decide +kernel
theorem ly_158 : lay 158 = .inr (0, 7) := by decide +kernel
theorem ly_159 : lay 159 = .inl 5 := by decide +kernel
theorem ly_160 : lay 160 = .inr (0, 4) := by decide +kernel
theorem ly_161 : lay 161 = .inr (0, 4) := by decide +kernel
theorem ly_162 : lay 162 = .inr (0, 7) := by decide +kernel
theorem ly_163 : lay 163 = .inl 5 := by decide +kernel
theorem ly_164 : lay 164 = .inr (0, 4) := by decide +kernel
theorem ly_165 : lay 165 = .inr (0, 4) := by decide +kernel
theorem ly_166 : lay 166 = .inr (0, 7) := by decide +kernel
theorem ly_167 : lay 167 = .inl 5 := by decide +kernel
theorem ly_168 : lay 168 = .inr (0, 4) := by decide +kernel
theorem ly_169 : lay 169 = .inr (0, 4) := by decide +kernel
theorem ly_170 : lay 170 = .inr (0, 7) := by decide +kernel
theorem ly_171 : lay 171 = .inl 5 := by decide +kernel
theorem ly_172 : lay 172 = .inr (0, 4) := by decide +kernel
theorem ly_173 : lay 173 = .inr (0, 4) := by decide +kernel
theorem ly_174 : lay 174 = .inr (0, 7) := by decide +kernel
theorem ly_175 : lay 175 = .inl 5 := by decide +kernel
theorem ly_176 : lay 176 = .inr (0, 4) := by decide +kernel
theorem ly_177 : lay 177 = .inr (0, 4) := by decide +kernel
theorem ly_178 : lay 178 = .inr (0, 7) := by decide +kernel
theorem ly_179 : lay 179 = .inr (4, 3) := by decide +kernel
theorem ly_180 : lay 180 = .inl 1 := by decide +kernel
theorem ly_181 : lay 181 = .inr (0, 9) := by decide +kernel
theorem ly_182 : lay 182 = .inr (0, 16) := by decide +kernel
theorem ly_183 : lay 183 = .inl 3 := by decide +kernel
theorem ly_184 : lay 184 = .inr (5, 4) := by decide +kernel
theorem ly_185 : lay 185 = .inr (0, 128) := by decide +kernel
theorem ly_186 : lay 186 = .inr (0, 128) := by decide +kernel
theorem ly_187 : lay 187 = .inr (0, 128) := by decide +kernel
theorem ly_188 : lay 188 = .inr (0, 128) := by decide +kernel
theorem ly_189 : lay 189 = .inr (5, 5) := by decide +kernel
theorem ly_190 : lay 190 = .inr (0, 128) := by decide +kernel
theorem ly_191 : lay 191 = .inr (0, 128) := by decide +kernel
theorem ly_192 : lay 192 = .inr (0, 128) := by decide +kernel
theorem ly_193 : lay 193 = .inr (0, 128) := by decide +kernel
theorem ly_194 : lay 194 = .inr (0, 128) := by decide +kernel
theorem ly_195 : lay 195 = .inr (0, 7) := by decide +kernel
theorem ly_196 : lay 196 = .inl 0 := by decide +kernel
theorem ly_197 : lay 197 = .inr (0, 20) := by decide +kernel
theorem ly_198 : lay 198 = .inr (3, 20) := by decide +kernel
theorem ly_199 : lay 199 = .inl 7 := by decide +kernel
theorem ly_200 : lay 200 = .inr (0, 4) := by decide +kernel
theorem ly_201 : lay 201 = .inr (0, 4) := by decide +kernel
theorem ly_202 : lay 202 = .inr (0, 7) := by decide +kernel
theorem ly_203 : lay 203 = .inr (0, 7) := by decide +kernel
theorem ly_204 : lay 204 = .inr (0, 7) := by decide +kernel
theorem ly_205 : lay 205 = .inl 2 := by decide +kernel
theorem ly_206 : lay 206 = .inr (0, 408) := by decide +kernel
theorem ly_207 : lay 207 = .inr (0, 408) := by decide +kernel
theorem ly_208 : lay 208 = .inr (0, 4) := by decide +kernel
theorem ly_209 : lay 209 = .inr (0, 7) := by decide +kernel
theorem ly_210 : lay 210 = .inr (1, 7) := by decide +kernel
theorem ly_211 : lay 211 = .inr (3, 128) := by decide +kernel
theorem ly_212 : lay 212 = .inr (0, 7) := by decide +kernel
theorem ly_213 : lay 213 = .inr (1, 4) := by decide +kernel
theorem ly_214 : lay 214 = .inr (1, 7) := by decide +kernel
theorem ly_215 : lay 215 = .inl 7 := by decide +kernel
theorem ly_216 : lay 216 = .inr (0, 4) := by decide +kernel
theorem ly_217 : lay 217 = .inr (0, 4) := by decide +kernel
theorem ly_218 : lay 218 = .inr (0, 7) := by decide +kernel
theorem ly_219 : lay 219 = .inr (0, 7) := by decide +kernel
theorem ly_220 : lay 220 = .inr (0, 7) := by decide +kernel
theorem ly_221 : lay 221 = .inl 2 := by decide +kernel
theorem ly_222 : lay 222 = .inr (0, 408) := by decide +kernel
theorem ly_223 : lay 223 = .inr (0, 408) := by decide +kernel
theorem ly_224 : lay 224 = .inr (0, 4) := by decide +kernel
theorem ly_225 : lay 225 = .inr (0, 7) := by decide +kernel
theorem ly_226 : lay 226 = .inr (1, 7) := by decide +kernel
theorem ly_227 : lay 227 = .inr (3, 128) := by decide +kernel
theorem ly_228 : lay 228 = .inr (0, 7) := by decide +kernel
theorem ly_229 : lay 229 = .inr (1, 4) := by decide +kernel
theorem ly_230 : lay 230 = .inr (1, 7) := by decide +kernel
theorem ly_231 : lay 231 = .inl 5 := by decide +kernel
theorem ly_232 : lay 232 = .inr (0, 4) := by decide +kernel
theorem ly_233 : lay 233 = .inr (0, 4) := by decide +kernel
theorem ly_234 : lay 234 = .inr (0, 7) := by decide +kernel
theorem ly_235 : lay 235 = .inl 5 := by decide +kernel
theorem ly_236 : lay 236 = .inr (0, 4) := by decide +kernel
theorem ly_237 : lay 237 = .inr (0, 4) := by decide +kernel
theorem ly_238 : lay 238 = .inr (0, 7) := by decide +kernel
theorem ly_239 : lay 239 = .inl 5 := by decide +kernel
theorem ly_240 : lay 240 = .inr (0, 4) := by decide +kernel
theorem ly_241 : lay 241 = .inr (0, 4) := by decide +kernel
theorem ly_242 : lay 242 = .inr (0, 7) := by decide +kernel
theorem ly_243 : lay 243 = .inl 11 := by decide +kernel
theorem ly_244 : lay 244 = .inr (2, 2000) := by decide +kernel
theorem ly_245 : lay 245 = .inr (2, 2000) := by decide +kernel
theorem ly_246 : lay 246 = .inr (0, 403) := by decide +kernel
theorem ly_247 : lay 247 = .inr (0, 403) := by decide +kernel
theorem ly_248 : lay 248 = .inr (0, 403) := by decide +kernel
theorem ly_249 : lay 249 = .inr (1, 403) := by decide +kernel
theorem ly_250 : lay 250 = .inr (1, 21) := by decide +kernel
theorem ly_251 : lay 251 = .inr (1, 11) := by decide +kernel
theorem ly_252 : lay 252 = .inr (0, 11) := by decide +kernel
theorem ly_253 : lay 253 = .inr (0, 2) := by decide +kernel
theorem ly_254 : lay 254 = .inr (0, 8) := by decide +kernel
theorem ly_255 : lay 255 = .inr (0, 8) := by decide +kernel
theorem ly_256 : lay 256 = .inr (0, 2) := by decide +kernel
theorem ly_257 : lay 257 = .inr (0, 14) := by decide +kernel
theorem ly_258 : lay 258 = .inr (0, 14) := by decide +kernel
theorem ly_259 : lay 259 = .inr (0, 14) := by decide +kernel
theorem ly_260 : lay 260 = .inr (0, 14) := by decide +kernel
theorem ly_261 : lay 261 = .inr (0, 2) := by decide +kernel
theorem ly_262 : lay 262 = .inr (0, 2) := by decide +kernel
theorem ly_263 : lay 263 = .inr (0, 2) := by decide +kernel
theorem ly_264 : lay 264 = .inr (0, 8) := by decide +kernel
theorem ly_265 : lay 265 = .inr (0, 8) := by decide +kernel
theorem ly_266 : lay 266 = .inr (3, 260) := by decide +kernel
theorem ly_267 : lay 267 = .inr (0, 260) := by decide +kernel
theorem ly_268 : lay 268 = .inr (0, 260) := by decide +kernel
theorem ly_269 : lay 269 = .inr (0, 260) := by decide +kernel
theorem ly_270 : lay 270 = .inr (0, 260) := by decide +kernel
theorem ly_271 : lay 271 = .inr (0, 840) := by decide +kernel
theorem ly_272 : lay 272 = .inr (0, 840) := by decide +kernel
theorem ly_273 : lay 273 = .inr (0, 64) := by decide +kernel
theorem ly_274 : lay 274 = .inr (0, 9) := by decide +kernel
theorem ly_275 : lay 275 = .inr (0, 400) := by decide +kernel
theorem ly_276 : lay 276 = .inr (0, 31) := by decide +kernel
theorem ly_277 : lay 277 = .inr (0, 31) := by decide +kernel
theorem ly_278 : lay 278 = .inr (0, 7) := by decide +kernel
theorem ly_279 : lay 279 = .inr (0, 4) := by decide +kernel
theorem ly_280 : lay 280 = .inr (0, 1240) := by decide +kernel
theorem ly_281 : lay 281 = .inr (0, 512) := by decide +kernel
theorem ly_282 : lay 282 = .inr (0, 640) := by decide +kernel
theorem ly_283 : lay 283 = .inr (3, 2048) := by decide +kernel
theorem ly_284 : lay 284 = .inr (0, 128) := by decide +kernel
theorem ly_285 : lay 285 = .inr (0, 20) := by decide +kernel
theorem ly_286 : lay 286 = .inr (3, 20) := by decide +kernel
theorem ly_287 : lay 287 = .inr (3, 3) := by decide +kernel
theorem ly_288 : lay 288 = .inr (0, 93) := by decide +kernel
theorem rln_0 : 0 < NF := by decide
theorem rln_1 : 1 < NF := by decide
theorem rln_2 : 2 < NF := by decide
theorem rln_3 : 3 < NF := by decide
theorem rln_4 : 4 < NF := by decide
theorem rln_5 : 5 < NF := by decide
theorem rln_6 : 6 < NF := by decide
theorem rln_7 : 7 < NF := by decide
theorem rln_8 : 8 < NF := by decide
theorem rln_9 : 9 < NF := by decide
theorem rln_10 : 10 < NF := by decide
theorem rln_11 : 11 < NF := by decide
theorem rln_12 : 12 < NF := by decide
theorem rln_13 : 13 < NF := by decide
theorem rln_14 : 14 < NF := by decide
theorem rln_15 : 15 < NF := by decide
theorem rln_16 : 16 < NF := by decide
theorem rln_17 : 17 < NF := by decide
theorem rln_18 : 18 < NF := by decide
theorem rln_19 : 19 < NF := by decide
theorem rln_20 : 20 < NF := by decide
theorem rln_21 : 21 < NF := by decide
theorem rln_22 : 22 < NF := by decide
theorem rln_23 : 23 < NF := by decide
theorem rln_24 : 24 < NF := by decide
theorem rln_25 : 25 < NF := by decide
theorem rln_26 : 26 < NF := by decide
theorem rln_27 : 27 < NF := by decide
theorem rln_28 : 28 < NF := by decide
theorem rln_29 : 29 < NF := by decide
theorem rln_30 : 30 < NF := by decide
theorem rln_31 : 31 < NF := by decide
theorem rln_32 : 32 < NF := by decide
theorem rln_33 : 33 < NF := by decide
theorem rln_34 : 34 < NF := by decide
theorem rln_35 : 35 < NF := by decide
theorem rln_36 : 36 < NF := by decide
theorem rln_37 : 37 < NF := by decide
theorem rln_38 : 38 < NF := by decide
theorem rln_39 : 39 < NF := by decide
theorem rln_40 : 40 < NF := by decide
theorem rln_41 : 41 < NF := by decide
theorem rln_42 : 42 < NF := by decide
theorem rln_43 : 43 < NF := by decide
theorem rln_44 : 44 < NF := by decide
theorem rln_45 : 45 < NF := by decide
theorem rln_46 : 46 < NF := by decide
theorem rln_47 : 47 < NF := by decide
theorem rln_48 : 48 < NF := by decide
theorem rln_49 : 49 < NF := by decide
theorem rln_50 : 50 < NF := by decide
theorem rln_51 : 51 < NF := by decide
theorem rln_52 : 52 < NF := by decide
theorem rln_53 : 53 < NF := by decide
theorem rln_54 : 54 < NF := by decide
theorem rln_55 : 55 < NF := by decide
theorem rln_56 : 56 < NF := by decide
theorem rln_57 : 57 < NF := by decide
theorem rln_58 : 58 < NF := by decide
theorem rln_59 : 59 < NF := by decide
theorem rln_60 : 60 < NF := by decide
theorem rln_61 : 61 < NF := by decide
theorem rln_62 : 62 < NF := by decide
theorem rln_63 : 63 < NF := by decide
theorem rln_64 : 64 < NF := by decide
theorem rln_65 : 65 < NF := by decide
theorem rln_66 : 66 < NF := by decide
theorem rln_67 : 67 < NF := by decide
theorem rln_68 : 68 < NF := by decide
theorem rln_69 : 69 < NF := by decide
theorem rln_70 : 70 < NF := by decide
theorem rln_71 : 71 < NF := by decide
theorem rln_72 : 72 < NF := by decide
theorem rln_73 : 73 < NF := by decide
theorem rln_74 : 74 < NF := by decide
theorem rln_75 : 75 < NF := by decide
theorem rln_76 : 76 < NF := by decide
theorem rln_77 : 77 < NF := by decide
theorem rln_78 : 78 < NF := by decide
theorem rln_79 : 79 < NF := by decide
theorem rln_80 : 80 < NF := by decide
theorem rln_81 : 81 < NF := by decide
theorem rln_82 : 82 < NF := by decide
theorem rln_83 : 83 < NF := by decide
theorem rln_84 : 84 < NF := by decide
theorem rln_85 : 85 < NF := by decide
theorem rln_86 : 86 < NF := by decide
theorem rln_87 : 87 < NF := by decide
theorem rln_88 : 88 < NF := by decide
theorem rln_89 : 89 < NF := by decide
theorem rln_90 : 90 < NF := by decide
theorem rln_91 : 91 < NF := by decide
theorem rln_92 : 92 < NF := by decide
theorem rln_93 : 93 < NF := by decide
theorem rln_94 : 94 < NF := by decide
theorem rln_95 : 95 < NF := by decide
theorem rln_96 : 96 < NF := by decide
theorem rln_97 : 97 < NF := by decide
theorem rln_98 : 98 < NF := by decide
theorem rln_99 : 99 < NF := by decide
theorem rln_100 : 100 < NF := by decide
theorem rln_101 : 101 < NF := by decide
theorem rln_102 : 102 < NF := by decide
theorem rln_103 : 103 < NF := by decide
theorem rln_104 : 104 < NF := by decide
theorem rln_105 : 105 < NF := by decide
theorem rln_106 : 106 < NF := by decide
theorem rln_107 : 107 < NF := by decide
theorem rln_108 : 108 < NF := by decide
theorem rln_109 : 109 < NF := by decide
theorem rln_110 : 110 < NF := by decide
theorem rln_111 : 111 < NF := by decide
theorem rln_112 : 112 < NF := by decide
theorem rln_113 : 113 < NF := by decide
theorem rln_114 : 114 < NF := by decide
theorem rln_115 : 115 < NF := by decide
theorem rln_116 : 116 < NF := by decide
theorem rln_117 : 117 < NF := by decide
theorem rln_118 : 118 < NF := by decide
theorem rln_119 : 119 < NF := by decide
theorem rln_120 : 120 < NF := by decide
theorem rln_121 : 121 < NF := by decide
theorem rln_122 : 122 < NF := by decide
theorem rln_123 : 123 < NF := by decide
theorem rln_124 : 124 < NF := by decide
theorem rln_125 : 125 < NF := by decide
theorem rln_126 : 126 < NF := by decide
theorem rln_127 : 127 < NF := by decide
theorem rln_128 : 128 < NF := by decide
theorem rln_129 : 129 < NF := by decide
theorem rln_130 : 130 < NF := by decide
theorem rln_131 : 131 < NF := by decide
theorem rln_132 : 132 < NF := by decide
theorem rln_133 : 133 < NF := by decide
theorem rln_134 : 134 < NF := by decide
theorem rln_135 : 135 < NF := by decide
theorem rln_136 : 136 < NF := by decide
theorem rln_137 : 137 < NF := by decide
theorem rln_138 : 138 < NF := by decide
theorem rln_139 : 139 < NF := by decide
theorem rln_140 : 140 < NF := by decide
theorem rln_141 : 141 < NF := by decide
theorem rln_142 : 142 < NF := by decide
theorem rln_143 : 143 < NF := by decide
theorem rln_144 : 144 < NF := by decide
theorem rln_145 : 145 < NF := by decide
theorem rln_146 : 146 < NF := by decide
theorem rln_147 : 147 < NF := by decide
theorem rln_148 : 148 < NF := by decide
theorem rln_149 : 149 < NF := by decide
theorem rln_150 : 150 < NF := by decide
theorem rln_151 : 151 < NF := by decide
theorem rln_152 : 152 < NF := by decide
theorem rln_153 : 153 < NF := by decide
theorem rln_154 : 154 < NF := by decide
theorem rln_155 : 155 < NF := by decide
theorem rln_156 : 156 < NF := by decide
theorem rln_157 : 157 < NF := by decide
theorem rln_158 : 158 < NF := by decide
theorem rln_159 : 159 < NF := by decide
theorem rln_160 : 160 < NF := by decide
theorem rln_161 : 161 < NF := by decide
theorem rln_162 : 162 < NF := by decide
theorem rln_163 : 163 < NF := by decide
theorem rln_164 : 164 < NF := by decide
theorem rln_165 : 165 < NF := by decide
theorem rln_166 : 166 < NF := by decide
theorem rln_167 : 167 < NF := by decide
theorem rln_168 : 168 < NF := by decide
theorem rln_169 : 169 < NF := by decide
theorem rln_170 : 170 < NF := by decide
theorem rln_171 : 171 < NF := by decide
theorem rln_172 : 172 < NF := by decide
theorem rln_173 : 173 < NF := by decide
theorem rln_174 : 174 < NF := by decide
theorem rln_175 : 175 < NF := by decide
theorem rln_176 : 176 < NF := by decide
theorem rln_177 : 177 < NF := by decide
theorem rln_178 : 178 < NF := by decide
theorem rln_179 : 179 < NF := by decide
theorem rln_180 : 180 < NF := by decide
theorem rln_181 : 181 < NF := by decide
theorem rln_182 : 182 < NF := by decide
theorem rln_183 : 183 < NF := by decide
theorem rln_184 : 184 < NF := by decide
theorem rln_185 : 185 < NF := by decide
theorem rln_186 : 186 < NF := by decide
theorem rln_187 : 187 < NF := by decide
theorem rln_188 : 188 < NF := by decide
theorem rln_189 : 189 < NF := by decide
theorem rln_190 : 190 < NF := by decide
theorem rln_191 : 191 < NF := by decide
theorem rln_192 : 192 < NF := by decide
theorem rln_193 : 193 < NF := by decide
theorem rln_194 : 194 < NF := by decide
theorem rln_195 : 195 < NF := by decide
theorem rln_196 : 196 < NF := by decide
theorem rln_197 : 197 < NF := by decide
theorem rln_198 : 198 < NF := by decide
theorem rln_199 : 199 < NF := by decide
theorem rln_200 : 200 < NF := by decide
theorem rln_201 : 201 < NF := by decide
theorem rln_202 : 202 < NF := by decide
theorem rln_203 : 203 < NF := by decide
theorem rln_204 : 204 < NF := by decide
theorem rln_205 : 205 < NF := by decide
theorem rln_206 : 206 < NF := by decide
theorem rln_207 : 207 < NF := by decide
theorem rln_208 : 208 < NF := by decide
theorem rln_209 : 209 < NF := by decide
theorem rln_210 : 210 < NF := by decide
theorem rln_211 : 211 < NF := by decide
theorem rln_212 : 212 < NF := by decide
theorem rln_213 : 213 < NF := by decide
theorem rln_214 : 214 < NF := by decide
theorem rln_215 : 215 < NF := by decide
theorem rln_216 : 216 < NF := by decide
theorem rln_217 : 217 < NF := by decide
theorem rln_218 : 218 < NF := by decide
theorem rln_219 : 219 < NF := by decide
theorem rln_220 : 220 < NF := by decide
theorem rln_221 : 221 < NF := by decide
theorem rln_222 : 222 < NF := by decide
theorem rln_223 : 223 < NF := by decide
theorem rln_224 : 224 < NF := by decide
theorem rln_225 : 225 < NF := by decide
theorem rln_226 : 226 < NF := by decide
theorem rln_227 : 227 < NF := by decide
theorem rln_228 : 228 < NF := by decide
theorem rln_229 : 229 < NF := by decide
theorem rln_230 : 230 < NF := by decide
theorem rln_231 : 231 < NF := by decide
theorem rln_232 : 232 < NF := by decide
theorem rln_233 : 233 < NF := by decide
theorem rln_234 : 234 < NF := by decide
theorem rln_235 : 235 < NF := by decide
theorem rln_236 : 236 < NF := by decide
theorem rln_237 : 237 < NF := by decide
theorem rln_238 : 238 < NF := by decide
theorem rln_239 : 239 < NF := by decide
theorem rln_240 : 240 < NF := by decide
theorem rln_241 : 241 < NF := by decide
theorem rln_242 : 242 < NF := by decide
theorem rln_243 : 243 < NF := by decide
theorem rln_244 : 244 < NF := by decide
theorem rln_245 : 245 < NF := by decide
theorem rln_246 : 246 < NF := by decide
theorem rln_247 : 247 < NF := by decide
theorem rln_248 : 248 < NF := by decide
theorem rln_249 : 249 < NF := by decide
theorem rln_250 : 250 < NF := by decide
theorem rln_251 : 251 < NF := by decide
theorem rln_252 : 252 < NF := by decide
theorem rln_253 : 253 < NF := by decide
theorem rln_254 : 254 < NF := by decide
theorem rln_255 : 255 < NF := by decide
theorem rln_256 : 256 < NF := by decide
theorem rln_257 : 257 < NF := by decide
theorem rln_258 : 258 < NF := by decide
theorem rln_259 : 259 < NF := by decide
theorem rln_260 : 260 < NF := by decide
theorem rln_261 : 261 < NF := by decide
theorem rln_262 : 262 < NF := by decide
theorem rln_263 : 263 < NF := by decide
theorem rln_264 : 264 < NF := by decide
theorem rln_265 : 265 < NF := by decide
theorem rln_266 : 266 < NF := by decide
theorem rln_267 : 267 < NF := by decide
theorem rln_268 : 268 < NF := by decide
theorem rln_269 : 269 < NF := by decide
theorem rln_270 : 270 < NF := by decide
theorem rln_271 : 271 < NF := by decide
theorem rln_272 : 272 < NF := by decide
theorem rln_273 : 273 < NF := by decide
theorem rln_274 : 274 < NF := by decide
theorem rln_275 : 275 < NF := by decide
theorem rln_276 : 276 < NF := by decide
theorem rln_277 : 277 < NF := by decide
theorem rln_278 : 278 < NF := by decide
theorem rln_279 : 279 < NF := by decide
theorem rln_280 : 280 < NF := by decide
theorem rln_281 : 281 < NF := by decide
theorem rln_282 : 282 < NF := by decide
theorem rln_283 : 283 < NF := by decide
theorem rln_284 : 284 < NF := by decide
theorem rln_285 : 285 < NF := by decide
theorem rln_286 : 286 < NF := by decide
theorem rln_287 : 287 < NF := by decide
theorem rln_288 : 288 < NF := by decide
theorem rf_0_0 : Rf0 0 0 = some 1 := by decide +kernel
theorem rf_0_1 : Rf0 0 1 = some 3 := by decide +kernel
theorem rf_0_2 : Rf0 0 2 = some 9 := by decide +kernel
theorem rf_0_3 : Rf0 0 3 = some 13 := by decide +kernel
theorem rf_0_4 : Rf0 0 4 = some 17 := by decide +kernel
theorem rf_0_5 : Rf0 0 5 = some 179 := by decide +kernel
theorem rf_0_6 : Rf0 0 6 = some 180 := by decide +kernel
theorem rf_0_7 : Rf0 0 7 = some 183 := by decide +kernel
theorem rf_0_8 : Rf0 0 8 = some 196 := by decide +kernel
theorem rf_0_9 : Rf0 0 9 = some 199 := by decide +kernel
theorem rf_0_10 : Rf0 0 10 = some 215 := by decide +kernel
theorem rf_1_0 : Rf0 1 0 = some 2 := by decide +kernel
theorem rf_3_2 : Rf0 3 2 = some 4 := by decide +kernel
theorem rf_4_0 : Rf0 4 0 = some 5 := by decide +kernel
theorem rf_4_1 : Rf0 4 1 = some 6 := by decide +kernel
theorem rf_4_2 : Rf0 4 2 = some 7 := by decide +kernel
theorem rf_4_3 : Rf0 4 3 = some 8 := by decide +kernel
theorem rf_9_4 : Rf0 9 4 = some 10 := by decide +kernel
theorem rf_9_5 : Rf0 9 5 = some 11 := by decide +kernel
theorem rf_9_6 : Rf0 9 6 = some 12 := by decide +kernel
theorem rf_13_4 : Rf0 13 4 = some 14 := by decide +kernel
theorem rf_13_5 : Rf0 13 5 = some 15 := by decide +kernel
theorem rf_13_6 : Rf0 13 6 = some 16 := by decide +kernel
theorem rf_17_1 : Rf0 17 1 = some 18 := by decide +kernel
theorem rf_18_0 : Rf0 18 0 = some 19 := by decide +kernel
theorem rf_18_1 : Rf0 18 1 = some 23 := by decide +kernel
theorem rf_18_2 : Rf0 18 2 = some 27 := by decide +kernel
theorem rf_18_3 : Rf0 18 3 = some 31 := by decide +kernel
theorem rf_18_4 : Rf0 18 4 = some 35 := by decide +kernel
theorem rf_18_5 : Rf0 18 5 = some 39 := by decide +kernel
theorem rf_18_6 : Rf0 18 6 = some 43 := by decide +kernel
theorem rf_18_7 : Rf0 18 7 = some 47 := by decide +kernel
theorem rf_18_8 : Rf0 18 8 = some 51 := by decide +kernel
theorem rf_18_9 : Rf0 18 9 = some 55 := by decide +kernel
theorem rf_18_10 : Rf0 18 10 = some 59 := by decide +kernel
theorem rf_18_11 : Rf0 18 11 = some 63 := by decide +kernel
theorem rf_18_12 : Rf0 18 12 = some 67 := by decide +kernel
theorem rf_18_13 : Rf0 18 13 = some 71 := by decide +kernel
theorem rf_18_14 : Rf0 18 14 = some 75 := by decide +kernel
theorem rf_18_15 : Rf0 18 15 = some 79 := by decide +kernel
theorem rf_18_16 : Rf0 18 16 = some 83 := by decide +kernel
theorem rf_18_17 : Rf0 18 17 = some 87 := by decide +kernel
theorem rf_18_18 : Rf0 18 18 = some 91 := by decide +kernel
theorem rf_18_19 : Rf0 18 19 = some 95 := by decide +kernel
theorem rf_18_20 : Rf0 18 20 = some 99 := by decide +kernel
theorem rf_18_21 : Rf0 18 21 = some 103 := by decide +kernel
theorem rf_18_22 : Rf0 18 22 = some 107 := by decide +kernel
theorem rf_18_23 : Rf0 18 23 = some 111 := by decide +kernel
theorem rf_18_24 : Rf0 18 24 = some 115 := by decide +kernel
theorem rf_18_25 : Rf0 18 25 = some 119 := by decide +kernel
theorem rf_18_26 : Rf0 18 26 = some 123 := by decide +kernel
theorem rf_18_27 : Rf0 18 27 = some 127 := by decide +kernel
theorem rf_18_28 : Rf0 18 28 = some 131 := by decide +kernel
theorem rf_18_29 : Rf0 18 29 = some 135 := by decide +kernel
theorem rf_18_30 : Rf0 18 30 = some 139 := by decide +kernel
theorem rf_18_31 : Rf0 18 31 = some 143 := by decide +kernel
theorem rf_18_32 : Rf0 18 32 = some 147 := by decide +kernel
theorem rf_18_33 : Rf0 18 33 = some 151 := by decide +kernel
theorem rf_18_34 : Rf0 18 34 = some 155 := by decide +kernel
theorem rf_18_35 : Rf0 18 35 = some 159 := by decide +kernel
theorem rf_18_36 : Rf0 18 36 = some 163 := by decide +kernel
theorem rf_18_37 : Rf0 18 37 = some 167 := by decide +kernel
theorem rf_18_38 : Rf0 18 38 = some 171 := by decide +kernel
theorem rf_18_39 : Rf0 18 39 = some 175 := by decide +kernel
theorem rf_19_4 : Rf0 19 4 = some 20 := by decide +kernel
theorem rf_19_5 : Rf0 19 5 = some 21 := by decide +kernel
theorem rf_19_6 : Rf0 19 6 = some 22 := by decide +kernel
theorem rf_23_4 : Rf0 23 4 = some 24 := by decide +kernel
theorem rf_23_5 : Rf0 23 5 = some 25 := by decide +kernel
theorem rf_23_6 : Rf0 23 6 = some 26 := by decide +kernel
theorem rf_27_4 : Rf0 27 4 = some 28 := by decide +kernel
theorem rf_27_5 : Rf0 27 5 = some 29 := by decide +kernel
theorem rf_27_6 : Rf0 27 6 = some 30 := by decide +kernel
theorem rf_31_4 : Rf0 31 4 = some 32 := by decide +kernel
theorem rf_31_5 : Rf0 31 5 = some 33 := by decide +kernel
theorem rf_31_6 : Rf0 31 6 = some 34 := by decide +kernel
theorem rf_35_4 : Rf0 35 4 = some 36 := by decide +kernel
theorem rf_35_5 : Rf0 35 5 = some 37 := by decide +kernel
theorem rf_35_6 : Rf0 35 6 = some 38 := by decide +kernel
theorem rf_39_4 : Rf0 39 4 = some 40 := by decide +kernel
theorem rf_39_5 : Rf0 39 5 = some 41 := by decide +kernel
theorem rf_39_6 : Rf0 39 6 = some 42 := by decide +kernel
theorem rf_43_4 : Rf0 43 4 = some 44 := by decide +kernel
theorem rf_43_5 : Rf0 43 5 = some 45 := by decide +kernel
theorem rf_43_6 : Rf0 43 6 = some 46 := by decide +kernel
theorem rf_47_4 : Rf0 47 4 = some 48 := by decide +kernel
theorem rf_47_5 : Rf0 47 5 = some 49 := by decide +kernel
theorem rf_47_6 : Rf0 47 6 = some 50 := by decide +kernel
theorem rf_51_4 : Rf0 51 4 = some 52 := by decide +kernel
theorem rf_51_5 : Rf0 51 5 = some 53 := by decide +kernel
theorem rf_51_6 : Rf0 51 6 = some 54 := by decide +kernel
theorem rf_55_4 : Rf0 55 4 = some 56 := by decide +kernel
theorem rf_55_5 : Rf0 55 5 = some 57 := by decide +kernel
theorem rf_55_6 : Rf0 55 6 = some 58 := by decide +kernel
theorem rf_59_4 : Rf0 59 4 = some 60 := by decide +kernel
theorem rf_59_5 : Rf0 59 5 = some 61 := by decide +kernel
theorem rf_59_6 : Rf0 59 6 = some 62 := by decide +kernel
theorem rf_63_4 : Rf0 63 4 = some 64 := by decide +kernel
theorem rf_63_5 : Rf0 63 5 = some 65 := by decide +kernel
theorem rf_63_6 : Rf0 63 6 = some 66 := by decide +kernel
theorem rf_67_4 : Rf0 67 4 = some 68 := by decide +kernel
theorem rf_67_5 : Rf0 67 5 = some 69 := by decide +kernel
theorem rf_67_6 : Rf0 67 6 = some 70 := by decide +kernel
theorem rf_71_4 : Rf0 71 4 = some 72 := by decide +kernel
theorem rf_71_5 : Rf0 71 5 = some 73 := by decide +kernel
theorem rf_71_6 : Rf0 71 6 = some 74 := by decide +kernel
theorem rf_75_4 : Rf0 75 4 = some 76 := by decide +kernel
theorem rf_75_5 : Rf0 75 5 = some 77 := by decide +kernel
theorem rf_75_6 : Rf0 75 6 = some 78 := by decide +kernel
theorem rf_79_4 : Rf0 79 4 = some 80 := by decide +kernel
theorem rf_79_5 : Rf0 79 5 = some 81 := by decide +kernel
theorem rf_79_6 : Rf0 79 6 = some 82 := by decide +kernel
theorem rf_83_4 : Rf0 83 4 = some 84 := by decide +kernel
theorem rf_83_5 : Rf0 83 5 = some 85 := by decide +kernel
theorem rf_83_6 : Rf0 83 6 = some 86 := by decide +kernel
theorem rf_87_4 : Rf0 87 4 = some 88 := by decide +kernel
theorem rf_87_5 : Rf0 87 5 = some 89 := by decide +kernel
theorem rf_87_6 : Rf0 87 6 = some 90 := by decide +kernel
theorem rf_91_4 : Rf0 91 4 = some 92 := by decide +kernel
theorem rf_91_5 : Rf0 91 5 = some 93 := by decide +kernel
theorem rf_91_6 : Rf0 91 6 = some 94 := by decide +kernel
theorem rf_95_4 : Rf0 95 4 = some 96 := by decide +kernel
theorem rf_95_5 : Rf0 95 5 = some 97 := by decide +kernel
theorem rf_95_6 : Rf0 95 6 = some 98 := by decide +kernel
theorem rf_99_4 : Rf0 99 4 = some 100 := by decide +kernel
theorem rf_99_5 : Rf0 99 5 = some 101 := by decide +kernel
theorem rf_99_6 : Rf0 99 6 = some 102 := by decide +kernel
theorem rf_103_4 : Rf0 103 4 = some 104 := by decide +kernel
theorem rf_103_5 : Rf0 103 5 = some 105 := by decide +kernel
theorem rf_103_6 : Rf0 103 6 = some 106 := by decide +kernel
theorem rf_107_4 : Rf0 107 4 = some 108 := by decide +kernel
theorem rf_107_5 : Rf0 107 5 = some 109 := by decide +kernel
theorem rf_107_6 : Rf0 107 6 = some 110 := by decide +kernel
theorem rf_111_4 : Rf0 111 4 = some 112 := by decide +kernel
theorem rf_111_5 : Rf0 111 5 = some 113 := by decide +kernel
theorem rf_111_6 : Rf0 111 6 = some 114 := by decide +kernel
theorem rf_115_4 : Rf0 115 4 = some 116 := by decide +kernel
theorem rf_115_5 : Rf0 115 5 = some 117 := by decide +kernel
theorem rf_115_6 : Rf0 115 6 = some 118 := by decide +kernel
theorem rf_119_4 : Rf0 119 4 = some 120 := by decide +kernel
theorem rf_119_5 : Rf0 119 5 = some 121 := by decide +kernel
theorem rf_119_6 : Rf0 119 6 = some 122 := by decide +kernel
theorem rf_123_4 : Rf0 123 4 = some 124 := by decide +kernel
theorem rf_123_5 : Rf0 123 5 = some 125 := by decide +kernel
theorem rf_123_6 : Rf0 123 6 = some 126 := by decide +kernel
theorem rf_127_4 : Rf0 127 4 = some 128 := by decide +kernel
theorem rf_127_5 : Rf0 127 5 = some 129 := by decide +kernel
theorem rf_127_6 : Rf0 127 6 = some 130 := by decide +kernel
theorem rf_131_4 : Rf0 131 4 = some 132 := by decide +kernel
theorem rf_131_5 : Rf0 131 5 = some 133 := by decide +kernel
theorem rf_131_6 : Rf0 131 6 = some 134 := by decide +kernel
theorem rf_135_4 : Rf0 135 4 = some 136 := by decide +kernel
theorem rf_135_5 : Rf0 135 5 = some 137 := by decide +kernel
theorem rf_135_6 : Rf0 135 6 = some 138 := by decide +kernel
theorem rf_139_4 : Rf0 139 4 = some 140 := by decide +kernel
theorem rf_139_5 : Rf0 139 5 = some 141 := by decide +kernel
theorem rf_139_6 : Rf0 139 6 = some 142 := by decide +kernel
theorem rf_143_4 : Rf0 143 4 = some 144 := by decide +kernel
theorem rf_143_5 : Rf0 143 5 = some 145 := by decide +kernel
theorem rf_143_6 : Rf0 143 6 = some 146 := by decide +kernel
theorem rf_147_4 : Rf0 147 4 = some 148 := by decide +kernel
theorem rf_147_5 : Rf0 147 5 = some 149 := by decide +kernel
theorem rf_147_6 : Rf0 147 6 = some 150 := by decide +kernel
theorem rf_151_4 : Rf0 151 4 = some 152 := by decide +kernel
theorem rf_151_5 : Rf0 151 5 = some 153 := by decide +kernel
theorem rf_151_6 : Rf0 151 6 = some 154 := by decide +kernel
theorem rf_155_4 : Rf0 155 4 = some 156 := by decide +kernel
theorem rf_155_5 : Rf0 155 5 = some 157 := by decide +kernel
theorem rf_155_6 : Rf0 155 6 = some 158 := by decide +kernel
theorem rf_159_4 : Rf0 159 4 = some 160 := by decide +kernel
theorem rf_159_5 : Rf0 159 5 = some 161 := by decide +kernel
theorem rf_159_6 : Rf0 159 6 = some 162 := by decide +kernel
theorem rf_163_4 : Rf0 163 4 = some 164 := by decide +kernel
theorem rf_163_5 : Rf0 163 5 = some 165 := by decide +kernel
theorem rf_163_6 : Rf0 163 6 = some 166 := by decide +kernel
theorem rf_167_4 : Rf0 167 4 = some 168 := by decide +kernel
theorem rf_167_5 : Rf0 167 5 = some 169 := by decide +kernel
theorem rf_167_6 : Rf0 167 6 = some 170 := by decide +kernel
theorem rf_171_4 : Rf0 171 4 = some 172 := by decide +kernel
theorem rf_171_5 : Rf0 171 5 = some 173 := by decide +kernel
theorem rf_171_6 : Rf0 171 6 = some 174 := by decide +kernel
theorem rf_175_4 : Rf0 175 4 = some 176 := by decide +kernel
theorem rf_175_5 : Rf0 175 5 = some 177 := by decide +kernel
theorem rf_175_6 : Rf0 175 6 = some 178 := by decide +kernel
theorem rf_179_0 : Rf0 179 0 = some 231 := by decide +kernel
theorem rf_179_1 : Rf0 179 1 = some 235 := by decide +kernel
theorem rf_179_2 : Rf0 179 2 = some 239 := by decide +kernel
theorem rf_180_0 : Rf0 180 0 = some 181 := by decide +kernel
theorem rf_180_1 : Rf0 180 1 = some 182 := by decide +kernel
theorem rf_183_0 : Rf0 183 0 = some 184 := by decide +kernel
theorem rf_183_1 : Rf0 183 1 = some 189 := by decide +kernel
theorem rf_183_2 : Rf0 183 2 = some 195 := by decide +kernel
theorem rf_184_0 : Rf0 184 0 = some 185 := by decide +kernel
theorem rf_184_1 : Rf0 184 1 = some 186 := by decide +kernel
theorem rf_184_2 : Rf0 184 2 = some 187 := by decide +kernel
theorem rf_184_3 : Rf0 184 3 = some 188 := by decide +kernel
theorem rf_189_0 : Rf0 189 0 = some 190 := by decide +kernel
theorem rf_189_1 : Rf0 189 1 = some 191 := by decide +kernel
theorem rf_189_2 : Rf0 189 2 = some 192 := by decide +kernel
theorem rf_189_3 : Rf0 189 3 = some 193 := by decide +kernel
theorem rf_189_4 : Rf0 189 4 = some 194 := by decide +kernel
theorem rf_196_1 : Rf0 196 1 = some 197 := by decide +kernel
theorem rf_196_2 : Rf0 196 2 = some 198 := by decide +kernel
theorem rf_199_1 : Rf0 199 1 = some 200 := by decide +kernel
theorem rf_199_2 : Rf0 199 2 = some 201 := by decide +kernel
theorem rf_199_4 : Rf0 199 4 = some 202 := by decide +kernel
theorem rf_199_5 : Rf0 199 5 = some 203 := by decide +kernel
theorem rf_199_6 : Rf0 199 6 = some 204 := by decide +kernel
theorem rf_199_10 : Rf0 199 10 = some 205 := by decide +kernel
theorem rf_199_11 : Rf0 199 11 = some 209 := by decide +kernel
theorem rf_199_12 : Rf0 199 12 = some 210 := by decide +kernel
theorem rf_199_13 : Rf0 199 13 = some 211 := by decide +kernel
theorem rf_199_14 : Rf0 199 14 = some 212 := by decide +kernel
theorem rf_199_15 : Rf0 199 15 = some 213 := by decide +kernel
theorem rf_199_16 : Rf0 199 16 = some 214 := by decide +kernel
theorem rf_205_0 : Rf0 205 0 = some 206 := by decide +kernel
theorem rf_205_1 : Rf0 205 1 = some 207 := by decide +kernel
theorem rf_205_2 : Rf0 205 2 = some 208 := by decide +kernel
theorem rf_215_1 : Rf0 215 1 = some 216 := by decide +kernel
theorem rf_215_2 : Rf0 215 2 = some 217 := by decide +kernel
theorem rf_215_4 : Rf0 215 4 = some 218 := by decide +kernel
theorem rf_215_5 : Rf0 215 5 = some 219 := by decide +kernel
theorem rf_215_6 : Rf0 215 6 = some 220 := by decide +kernel
theorem rf_215_10 : Rf0 215 10 = some 221 := by decide +kernel
theorem rf_215_11 : Rf0 215 11 = some 225 := by decide +kernel
theorem rf_215_12 : Rf0 215 12 = some 226 := by decide +kernel
theorem rf_215_13 : Rf0 215 13 = some 227 := by decide +kernel
theorem rf_215_14 : Rf0 215 14 = some 228 := by decide +kernel
theorem rf_215_15 : Rf0 215 15 = some 229 := by decide +kernel
theorem rf_215_16 : Rf0 215 16 = some 230 := by decide +kernel
theorem rf_221_0 : Rf0 221 0 = some 222 := by decide +kernel
theorem rf_221_1 : Rf0 221 1 = some 223 := by decide +kernel
theorem rf_221_2 : Rf0 221 2 = some 224 := by decide +kernel
theorem rf_231_4 : Rf0 231 4 = some 232 := by decide +kernel
theorem rf_231_5 : Rf0 231 5 = some 233 := by decide +kernel
theorem rf_231_6 : Rf0 231 6 = some 234 := by decide +kernel
theorem rf_235_4 : Rf0 235 4 = some 236 := by decide +kernel
theorem rf_235_5 : Rf0 235 5 = some 237 := by decide +kernel
theorem rf_235_6 : Rf0 235 6 = some 238 := by decide +kernel
theorem rf_239_4 : Rf0 239 4 = some 240 := by decide +kernel
theorem rf_239_5 : Rf0 239 5 = some 241 := by decide +kernel
theorem rf_239_6 : Rf0 239 6 = some 242 := by decide +kernel
theorem rf_243_1 : Rf0 243 1 = some 244 := by decide +kernel
theorem rf_243_3 : Rf0 243 3 = some 245 := by decide +kernel
theorem rf_243_5 : Rf0 243 5 = some 246 := by decide +kernel
theorem rf_243_6 : Rf0 243 6 = some 247 := by decide +kernel
theorem rf_243_7 : Rf0 243 7 = some 248 := by decide +kernel
theorem rf_243_8 : Rf0 243 8 = some 249 := by decide +kernel
theorem rf_243_9 : Rf0 243 9 = some 250 := by decide +kernel
theorem rf_243_21 : Rf0 243 21 = some 251 := by decide +kernel
theorem rf_243_22 : Rf0 243 22 = some 252 := by decide +kernel
theorem rf_243_23 : Rf0 243 23 = some 253 := by decide +kernel
theorem rf_243_24 : Rf0 243 24 = some 254 := by decide +kernel
theorem rf_243_25 : Rf0 243 25 = some 255 := by decide +kernel
theorem rf_243_26 : Rf0 243 26 = some 256 := by decide +kernel
theorem rf_243_27 : Rf0 243 27 = some 257 := by decide +kernel
theorem rf_243_28 : Rf0 243 28 = some 258 := by decide +kernel
theorem rf_243_29 : Rf0 243 29 = some 259 := by decide +kernel
theorem rf_243_30 : Rf0 243 30 = some 260 := by decide +kernel
theorem rf_243_31 : Rf0 243 31 = some 261 := by decide +kernel
theorem rf_243_32 : Rf0 243 32 = some 262 := by decide +kernel
theorem rf_243_33 : Rf0 243 33 = some 263 := by decide +kernel
theorem rf_243_34 : Rf0 243 34 = some 264 := by decide +kernel
theorem rf_243_35 : Rf0 243 35 = some 265 := by decide +kernel
theorem rf_243_37 : Rf0 243 37 = some 266 := by decide +kernel
theorem rf_243_38 : Rf0 243 38 = some 267 := by decide +kernel
theorem rf_243_39 : Rf0 243 39 = some 268 := by decide +kernel
theorem rf_243_40 : Rf0 243 40 = some 269 := by decide +kernel
theorem rf_243_41 : Rf0 243 41 = some 270 := by decide +kernel
theorem rf_243_43 : Rf0 243 43 = some 271 := by decide +kernel
theorem rf_243_44 : Rf0 243 44 = some 272 := by decide +kernel
theorem rf_243_45 : Rf0 243 45 = some 273 := by decide +kernel
theorem rf_243_47 : Rf0 243 47 = some 274 := by decide +kernel
theorem rf_243_48 : Rf0 243 48 = some 275 := by decide +kernel
theorem rf_243_50 : Rf0 243 50 = some 276 := by decide +kernel
theorem rf_243_51 : Rf0 243 51 = some 277 := by decide +kernel
theorem rf_243_54 : Rf0 243 54 = some 278 := by decide +kernel
theorem rf_243_55 : Rf0 243 55 = some 279 := by decide +kernel
theorem rf_243_57 : Rf0 243 57 = some 280 := by decide +kernel
theorem rf_243_58 : Rf0 243 58 = some 281 := by decide +kernel
theorem rf_243_59 : Rf0 243 59 = some 282 := by decide +kernel
theorem rf_243_60 : Rf0 243 60 = some 283 := by decide +kernel
theorem rf_243_61 : Rf0 243 61 = some 284 := by decide +kernel
theorem rf_243_63 : Rf0 243 63 = some 285 := by decide +kernel
theorem rf_243_64 : Rf0 243 64 = some 286 := by decide +kernel
theorem rf_243_65 : Rf0 243 65 = some 287 := by decide +kernel
theorem rf_243_66 : Rf0 243 66 = some 288 := by decide +kernel
def okX2 (Rf : Nat → Nat → Option Nat) (n t : Nat) : Prop := t + 3 < n ∧ lay t = .inl 2 ∧ Rf t 0 = some (t + 1) ∧ lay (t + 1) = .inr (0, 408) ∧ Rf t 1 = some (t + 2) ∧ lay (t + 2) = .inr (0, 408) ∧ Rf t 2 = some (t + 3) ∧ lay (t + 3) = .inr (0, 4)
theorem o2n {Rf : Nat → Nat → Option Nat} {n t : Nat} (h : okX2 Rf n t) : t < n := Nat.lt_of_le_of_lt (Nat.le_add_right _ _) h.1
theorem o2l {Rf : Nat → Nat → Option Nat} {n t : Nat} (h : okX2 Rf n t) : lay t = .inl 2 := h.2.1
theorem o2r0 {Rf : Nat → Nat → Option Nat} {n t : Nat} (h : okX2 Rf n t) : Rf t 0 = some (t + 1) := h.2.2.1
theorem o2l0 {Rf : Nat → Nat → Option Nat} {n t : Nat} (h : okX2 Rf n t) : lay (t + 1) = .inr (0, 408) := h.2.2.2.1
theorem o2r1 {Rf : Nat → Nat → Option Nat} {n t : Nat} (h : okX2 Rf n t) : Rf t 1 = some (t + 2) := h.2.2.2.2.1
theorem o2l1 {Rf : Nat → Nat → Option Nat} {n t : Nat} (h : okX2 Rf n t) : lay (t + 2) = .inr (0, 408) := h.2.2.2.2.2.1
theorem o2r2 {Rf : Nat → Nat → Option Nat} {n t : Nat} (h : okX2 Rf n t) : Rf t 2 = some (t + 3) := h.2.2.2.2.2.2.1
theorem o2l2 {Rf : Nat → Nat → Option Nat} {n t : Nat} (h : okX2 Rf n t) : lay (t + 3) = .inr (0, 4) := h.2.2.2.2.2.2.2
theorem o2n0 {Rf : Nat → Nat → Option Nat} {n t : Nat} (h : okX2 Rf n t) : t + 1 < n := Nat.lt_of_le_of_lt (Nat.add_le_add_left (by decide) t) h.1
theorem o2n1 {Rf : Nat → Nat → Option Nat} {n t : Nat} (h : okX2 Rf n t) : t + 2 < n := Nat.lt_of_le_of_lt (Nat.add_le_add_left (by decide) t) h.1
theorem o2n2 {Rf : Nat → Nat → Option Nat} {n t : Nat} (h : okX2 Rf n t) : t + 3 < n := Nat.lt_of_le_of_lt (Nat.add_le_add_left (by decide) t) h.1
def okX5 (Rf : Nat → Nat → Option Nat) (n t : Nat) : Prop := t + 3 < n ∧ lay t = .inl 5 ∧ Rf t 4 = some (t + 1) ∧ lay (t + 1) = .inr (0, 4) ∧ Rf t 5 = some (t + 2) ∧ lay (t + 2) = .inr (0, 4) ∧ Rf t 6 = some (t + 3) ∧ lay (t + 3) = .inr (0, 7)
theorem o5n {Rf : Nat → Nat → Option Nat} {n t : Nat} (h : okX5 Rf n t) : t < n := Nat.lt_of_le_of_lt (Nat.le_add_right _ _) h.1
theorem o5l {Rf : Nat → Nat → Option Nat} {n t : Nat} (h : okX5 Rf n t) : lay t = .inl 5 := h.2.1
theorem o5r4 {Rf : Nat → Nat → Option Nat} {n t : Nat} (h : okX5 Rf n t) : Rf t 4 = some (t + 1) := h.2.2.1
theorem o5l4 {Rf : Nat → Nat → Option Nat} {n t : Nat} (h : okX5 Rf n t) : lay (t + 1) = .inr (0, 4) := h.2.2.2.1
theorem o5r5 {Rf : Nat → Nat → Option Nat} {n t : Nat} (h : okX5 Rf n t) : Rf t 5 = some (t + 2) := h.2.2.2.2.1
theorem o5l5 {Rf : Nat → Nat → Option Nat} {n t : Nat} (h : okX5 Rf n t) : lay (t + 2) = .inr (0, 4) := h.2.2.2.2.2.1
theorem o5r6 {Rf : Nat → Nat → Option Nat} {n t : Nat} (h : okX5 Rf n t) : Rf t 6 = some (t + 3) := h.2.2.2.2.2.2.1
theorem o5l6 {Rf : Nat → Nat → Option Nat} {n t : Nat} (h : okX5 Rf n t) : lay (t + 3) = .inr (0, 7) := h.2.2.2.2.2.2.2
theorem o5n4 {Rf : Nat → Nat → Option Nat} {n t : Nat} (h : okX5 Rf n t) : t + 1 < n := Nat.lt_of_le_of_lt (Nat.add_le_add_left (by decide) t) h.1
theorem o5n5 {Rf : Nat → Nat → Option Nat} {n t : Nat} (h : okX5 Rf n t) : t + 2 < n := Nat.lt_of_le_of_lt (Nat.add_le_add_left (by decide) t) h.1
theorem o5n6 {Rf : Nat → Nat → Option Nat} {n t : Nat} (h : okX5 Rf n t) : t + 3 < n := Nat.lt_of_le_of_lt (Nat.add_le_add_left (by decide) t) h.1
def okX7 (Rf : Nat → Nat → Option Nat) (n t : Nat) : Prop := t + 15 < n ∧ lay t = .inl 7 ∧ Rf t 1 = some (t + 1) ∧ lay (t + 1) = .inr (0, 4) ∧ Rf t 2 = some (t + 2) ∧ lay (t + 2) = .inr (0, 4) ∧ Rf t 4 = some (t + 3) ∧ lay (t + 3) = .inr (0, 7) ∧ Rf t 5 = some (t + 4) ∧ lay (t + 4) = .inr (0, 7) ∧ Rf t 6 = some (t + 5) ∧ lay (t + 5) = .inr (0, 7) ∧ Rf t 10 = some (t + 6) ∧ okX2 Rf n (t + 6) ∧ Rf t 11 = some (t + 10) ∧ lay (t + 10) = .inr (0, 7) ∧ Rf t 12 = some (t + 11) ∧ lay (t + 11) = .inr (1, 7) ∧ Rf t 13 = some (t + 12) ∧ lay (t + 12) = .inr (3, 128) ∧ Rf t 14 = some (t + 13) ∧ lay (t + 13) = .inr (0, 7) ∧ Rf t 15 = some (t + 14) ∧ lay (t + 14) = .inr (1, 4) ∧ Rf t 16 = some (t + 15) ∧ lay (t + 15) = .inr (1, 7)
theorem o7n {Rf : Nat → Nat → Option Nat} {n t : Nat} (h : okX7 Rf n t) : t < n := Nat.lt_of_le_of_lt (Nat.le_add_right _ _) h.1
theorem o7l {Rf : Nat → Nat → Option Nat} {n t : Nat} (h : okX7 Rf n t) : lay t = .inl 7 := h.2.1
theorem o7r1 {Rf : Nat → Nat → Option Nat} {n t : Nat} (h : okX7 Rf n t) : Rf t 1 = some (t + 1) := h.2.2.1
theorem o7l1 {Rf : Nat → Nat → Option Nat} {n t : Nat} (h : okX7 Rf n t) : lay (t + 1) = .inr (0, 4) := h.2.2.2.1
theorem o7r2 {Rf : Nat → Nat → Option Nat} {n t : Nat} (h : okX7 Rf n t) : Rf t 2 = some (t + 2) := h.2.2.2.2.1
theorem o7l2 {Rf : Nat → Nat → Option Nat} {n t : Nat} (h : okX7 Rf n t) : lay (t + 2) = .inr (0, 4) := h.2.2.2.2.2.1
theorem o7r4 {Rf : Nat → Nat → Option Nat} {n t : Nat} (h : okX7 Rf n t) : Rf t 4 = some (t + 3) := h.2.2.2.2.2.2.1
theorem o7l4 {Rf : Nat → Nat → Option Nat} {n t : Nat} (h : okX7 Rf n t) : lay (t + 3) = .inr (0, 7) := h.2.2.2.2.2.2.2.1
theorem o7r5 {Rf : Nat → Nat → Option Nat} {n t : Nat} (h : okX7 Rf n t) : Rf t 5 = some (t + 4) := h.2.2.2.2.2.2.2.2.1
theorem o7l5 {Rf : Nat → Nat → Option Nat} {n t : Nat} (h : okX7 Rf n t) : lay (t + 4) = .inr (0, 7) := h.2.2.2.2.2.2.2.2.2.1
theorem o7r6 {Rf : Nat → Nat → Option Nat} {n t : Nat} (h : okX7 Rf n t) : Rf t 6 = some (t + 5) := h.2.2.2.2.2.2.2.2.2.2.1
theorem o7l6 {Rf : Nat → Nat → Option Nat} {n t : Nat} (h : okX7 Rf n t) : lay (t + 5) = .inr (0, 7) := h.2.2.2.2.2.2.2.2.2.2.2.1
theorem o7r10 {Rf : Nat → Nat → Option Nat} {n t : Nat} (h : okX7 Rf n t) : Rf t 10 = some (t + 6) := h.2.2.2.2.2.2.2.2.2.2.2.2.1
theorem o7k10 {Rf : Nat → Nat → Option Nat} {n t : Nat} (h : okX7 Rf n t) : okX2 Rf n (t + 6) := h.2.2.2.2.2.2.2.2.2.2.2.2.2.1
theorem o7r11 {Rf : Nat → Nat → Option Nat} {n t : Nat} (h : okX7 Rf n t) : Rf t 11 = some (t + 10) := h.2.2.2.2.2.2.2.2.2.2.2.2.2.2.1
theorem o7l11 {Rf : Nat → Nat → Option Nat} {n t : Nat} (h : okX7 Rf n t) : lay (t + 10) = .inr (0, 7) := h.2.2.2.2.2.2.2.2.2.2.2.2.2.2.2.1
theorem o7r12 {Rf : Nat → Nat → Option Nat} {n t : Nat} (h : okX7 Rf n t) : Rf t 12 = some (t + 11) := h.2.2.2.2.2.2.2.2.2.2.2.2.2.2.2.2.1
theorem o7l12 {Rf : Nat → Nat → Option Nat} {n t : Nat} (h : okX7 Rf n t) : lay (t + 11) = .inr (1, 7) := h.2.2.2.2.2.2.2.2.2.2.2.2.2.2.2.2.2.1
theorem o7r13 {Rf : Nat → Nat → Option Nat} {n t : Nat} (h : okX7 Rf n t) : Rf t 13 = some (t + 12) := h.2.2.2.2.2.2.2.2.2.2.2.2.2.2.2.2.2.2.1
theorem o7l13 {Rf : Nat → Nat → Option Nat} {n t : Nat} (h : okX7 Rf n t) : lay (t + 12) = .inr (3, 128) := h.2.2.2.2.2.2.2.2.2.2.2.2.2.2.2.2.2.2.2.1
theorem o7r14 {Rf : Nat → Nat → Option Nat} {n t : Nat} (h : okX7 Rf n t) : Rf t 14 = some (t + 13) := h.2.2.2.2.2.2.2.2.2.2.2.2.2.2.2.2.2.2.2.2.1
theorem o7l14 {Rf : Nat → Nat → Option Nat} {n t : Nat} (h : okX7 Rf n t) : lay (t + 13) = .inr (0, 7) := h.2.2.2.2.2.2.2.2.2.2.2.2.2.2.2.2.2.2.2.2.2.1
theorem o7r15 {Rf : Nat → Nat → Option Nat} {n t : Nat} (h : okX7 Rf n t) : Rf t 15 = some (t + 14) := h.2.2.2.2.2.2.2.2.2.2.2.2.2.2.2.2.2.2.2.2.2.2.1
theorem o7l15 {Rf : Nat → Nat → Option Nat} {n t : Nat} (h : okX7 Rf n t) : lay (t + 14) = .inr (1, 4) := h.2.2.2.2.2.2.2.2.2.2.2.2.2.2.2.2.2.2.2.2.2.2.2.1
theorem o7r16 {Rf : Nat → Nat → Option Nat} {n t : Nat} (h : okX7 Rf n t) : Rf t 16 = some (t + 15) := h.2.2.2.2.2.2.2.2.2.2.2.2.2.2.2.2.2.2.2.2.2.2.2.2.1
theorem o7l16 {Rf : Nat → Nat → Option Nat} {n t : Nat} (h : okX7 Rf n t) : lay (t + 15) = .inr (1, 7) := h.2.2.2.2.2.2.2.2.2.2.2.2.2.2.2.2.2.2.2.2.2.2.2.2.2
theorem o7n1 {Rf : Nat → Nat → Option Nat} {n t : Nat} (h : okX7 Rf n t) : t + 1 < n := Nat.lt_of_le_of_lt (Nat.add_le_add_left (by decide) t) h.1
theorem o7n2 {Rf : Nat → Nat → Option Nat} {n t : Nat} (h : okX7 Rf n t) : t + 2 < n := Nat.lt_of_le_of_lt (Nat.add_le_add_left (by decide) t) h.1
theorem o7n4 {Rf : Nat → Nat → Option Nat} {n t : Nat} (h : okX7 Rf n t) : t + 3 < n := Nat.lt_of_le_of_lt (Nat.add_le_add_left (by decide) t) h.1
theorem o7n5 {Rf : Nat → Nat → Option Nat} {n t : Nat} (h : okX7 Rf n t) : t + 4 < n := Nat.lt_of_le_of_lt (Nat.add_le_add_left (by decide) t) h.1
theorem o7n6 {Rf : Nat → Nat → Option Nat} {n t : Nat} (h : okX7 Rf n t) : t + 5 < n := Nat.lt_of_le_of_lt (Nat.add_le_add_left (by decide) t) h.1
theorem o7n10 {Rf : Nat → Nat → Option Nat} {n t : Nat} (h : okX7 Rf n t) : t + 6 < n := Nat.lt_of_le_of_lt (Nat.add_le_add_left (by decide) t) h.1
theorem o7n11 {Rf : Nat → Nat → Option Nat} {n t : Nat} (h : okX7 Rf n t) : t + 10 < n := Nat.lt_of_le_of_lt (Nat.add_le_add_left (by decide) t) h.1
theorem o7n12 {Rf : Nat → Nat → Option Nat} {n t : Nat} (h : okX7 Rf n t) : t + 11 < n := Nat.lt_of_le_of_lt (Nat.add_le_add_left (by decide) t) h.1
theorem o7n13 {Rf : Nat → Nat → Option Nat} {n t : Nat} (h : okX7 Rf n t) : t + 12 < n := Nat.lt_of_le_of_lt (Nat.add_le_add_left (by decide) t) h.1
theorem o7n14 {Rf : Nat → Nat → Option Nat} {n t : Nat} (h : okX7 Rf n t) : t + 13 < n := Nat.lt_of_le_of_lt (Nat.add_le_add_left (by decide) t) h.1
theorem o7n15 {Rf : Nat → Nat → Option Nat} {n t : Nat} (h : okX7 Rf n t) : t + 14 < n := Nat.lt_of_le_of_lt (Nat.add_le_add_left (by decide) t) h.1
theorem o7n16 {Rf : Nat → Nat → Option Nat} {n t : Nat} (h : okX7 Rf n t) : t + 15 < n := Nat.lt_of_le_of_lt (Nat.add_le_add_left (by decide) t) h.1
theorem okX2_205 : okX2 Rf0 NF 205 := ⟨by decide, ly_205, rf_205_0, ly_206, rf_205_1, ly_207, rf_205_2, ly_208⟩
theorem okX2_221 : okX2 Rf0 NF 221 := ⟨by decide, ly_221, rf_221_0, ly_222, rf_221_1, ly_223, rf_221_2, ly_224⟩
theorem okX5_9 : okX5 Rf0 NF 9 := ⟨by decide, ly_9, rf_9_4, ly_10, rf_9_5, ly_11, rf_9_6, ly_12⟩
theorem okX5_13 : okX5 Rf0 NF 13 := ⟨by decide, ly_13, rf_13_4, ly_14, rf_13_5, ly_15, rf_13_6, ly_16⟩
theorem okX5_19 : okX5 Rf0 NF 19 := ⟨by decide, ly_19, rf_19_4, ly_20, rf_19_5, ly_21, rf_19_6, ly_22⟩
theorem okX5_23 : okX5 Rf0 NF 23 := ⟨by decide, ly_23, rf_23_4, ly_24, rf_23_5, ly_25, rf_23_6, ly_26⟩
theorem okX5_27 : okX5 Rf0 NF 27 := ⟨by decide, ly_27, rf_27_4, ly_28, rf_27_5, ly_29, rf_27_6, ly_30⟩
theorem okX5_31 : okX5 Rf0 NF 31 := ⟨by decide, ly_31, rf_31_4, ly_32, rf_31_5, ly_33, rf_31_6, ly_34⟩
theorem okX5_35 : okX5 Rf0 NF 35 := ⟨by decide, ly_35, rf_35_4, ly_36, rf_35_5, ly_37, rf_35_6, ly_38⟩
theorem okX5_39 : okX5 Rf0 NF 39 := ⟨by decide, ly_39, rf_39_4, ly_40, rf_39_5, ly_41, rf_39_6, ly_42⟩
theorem okX5_43 : okX5 Rf0 NF 43 := ⟨by decide, ly_43, rf_43_4, ly_44, rf_43_5, ly_45, rf_43_6, ly_46⟩
theorem okX5_47 : okX5 Rf0 NF 47 := ⟨by decide, ly_47, rf_47_4, ly_48, rf_47_5, ly_49, rf_47_6, ly_50⟩
theorem okX5_51 : okX5 Rf0 NF 51 := ⟨by decide, ly_51, rf_51_4, ly_52, rf_51_5, ly_53, rf_51_6, ly_54⟩
theorem okX5_55 : okX5 Rf0 NF 55 := ⟨by decide, ly_55, rf_55_4, ly_56, rf_55_5, ly_57, rf_55_6, ly_58⟩
theorem okX5_59 : okX5 Rf0 NF 59 := ⟨by decide, ly_59, rf_59_4, ly_60, rf_59_5, ly_61, rf_59_6, ly_62⟩
theorem okX5_63 : okX5 Rf0 NF 63 := ⟨by decide, ly_63, rf_63_4, ly_64, rf_63_5, ly_65, rf_63_6, ly_66⟩
theorem okX5_67 : okX5 Rf0 NF 67 := ⟨by decide, ly_67, rf_67_4, ly_68, rf_67_5, ly_69, rf_67_6, ly_70⟩
theorem okX5_71 : okX5 Rf0 NF 71 := ⟨by decide, ly_71, rf_71_4, ly_72, rf_71_5, ly_73, rf_71_6, ly_74⟩
theorem okX5_75 : okX5 Rf0 NF 75 := ⟨by decide, ly_75, rf_75_4, ly_76, rf_75_5, ly_77, rf_75_6, ly_78⟩
theorem okX5_79 : okX5 Rf0 NF 79 := ⟨by decide, ly_79, rf_79_4, ly_80, rf_79_5, ly_81, rf_79_6, ly_82⟩
theorem okX5_83 : okX5 Rf0 NF 83 := ⟨by decide, ly_83, rf_83_4, ly_84, rf_83_5, ly_85, rf_83_6, ly_86⟩
theorem okX5_87 : okX5 Rf0 NF 87 := ⟨by decide, ly_87, rf_87_4, ly_88, rf_87_5, ly_89, rf_87_6, ly_90⟩
theorem okX5_91 : okX5 Rf0 NF 91 := ⟨by decide, ly_91, rf_91_4, ly_92, rf_91_5, ly_93, rf_91_6, ly_94⟩
theorem okX5_95 : okX5 Rf0 NF 95 := ⟨by decide, ly_95, rf_95_4, ly_96, rf_95_5, ly_97, rf_95_6, ly_98⟩
theorem okX5_99 : okX5 Rf0 NF 99 := ⟨by decide, ly_99, rf_99_4, ly_100, rf_99_5, ly_101, rf_99_6, ly_102⟩
theorem okX5_103 : okX5 Rf0 NF 103 := ⟨by decide, ly_103, rf_103_4, ly_104, rf_103_5, ly_105, rf_103_6, ly_106⟩
theorem okX5_107 : okX5 Rf0 NF 107 := ⟨by decide, ly_107, rf_107_4, ly_108, rf_107_5, ly_109, rf_107_6, ly_110⟩
theorem okX5_111 : okX5 Rf0 NF 111 := ⟨by decide, ly_111, rf_111_4, ly_112, rf_111_5, ly_113, rf_111_6, ly_114⟩
theorem okX5_115 : okX5 Rf0 NF 115 := ⟨by decide, ly_115, rf_115_4, ly_116, rf_115_5, ly_117, rf_115_6, ly_118⟩
theorem okX5_119 : okX5 Rf0 NF 119 := ⟨by decide, ly_119, rf_119_4, ly_120, rf_119_5, ly_121, rf_119_6, ly_122⟩
theorem okX5_123 : okX5 Rf0 NF 123 := ⟨by decide, ly_123, rf_123_4, ly_124, rf_123_5, ly_125, rf_123_6, ly_126⟩
theorem okX5_127 : okX5 Rf0 NF 127 := ⟨by decide, ly_127, rf_127_4, ly_128, rf_127_5, ly_129, rf_127_6, ly_130⟩
theorem okX5_131 : okX5 Rf0 NF 131 := ⟨by decide, ly_131, rf_131_4, ly_132, rf_131_5, ly_133, rf_131_6, ly_134⟩
theorem okX5_135 : okX5 Rf0 NF 135 := ⟨by decide, ly_135, rf_135_4, ly_136, rf_135_5, ly_137, rf_135_6, ly_138⟩
theorem okX5_139 : okX5 Rf0 NF 139 := ⟨by decide, ly_139, rf_139_4, ly_140, rf_139_5, ly_141, rf_139_6, ly_142⟩
theorem okX5_143 : okX5 Rf0 NF 143 := ⟨by decide, ly_143, rf_143_4, ly_144, rf_143_5, ly_145, rf_143_6, ly_146⟩
theorem okX5_147 : okX5 Rf0 NF 147 := ⟨by decide, ly_147, rf_147_4, ly_148, rf_147_5, ly_149, rf_147_6, ly_150⟩
theorem okX5_151 : okX5 Rf0 NF 151 := ⟨by decide, ly_151, rf_151_4, ly_152, rf_151_5, ly_153, rf_151_6, ly_154⟩
theorem okX5_155 : okX5 Rf0 NF 155 := ⟨by decide, ly_155, rf_155_4, ly_156, rf_155_5, ly_157, rf_155_6, ly_158⟩
theorem okX5_159 : okX5 Rf0 NF 159 := ⟨by decide, ly_159, rf_159_4, ly_160, rf_159_5, ly_161, rf_159_6, ly_162⟩
theorem okX5_163 : okX5 Rf0 NF 163 := ⟨by decide, ly_163, rf_163_4, ly_164, rf_163_5, ly_165, rf_163_6, ly_166⟩
theorem okX5_167 : okX5 Rf0 NF 167 := ⟨by decide, ly_167, rf_167_4, ly_168, rf_167_5, ly_169, rf_167_6, ly_170⟩
theorem okX5_171 : okX5 Rf0 NF 171 := ⟨by decide, ly_171, rf_171_4, ly_172, rf_171_5, ly_173, rf_171_6, ly_174⟩
theorem okX5_175 : okX5 Rf0 NF 175 := ⟨by decide, ly_175, rf_175_4, ly_176, rf_175_5, ly_177, rf_175_6, ly_178⟩
theorem okX7_199 : okX7 Rf0 NF 199 := ⟨by decide, ly_199, rf_199_1, ly_200, rf_199_2, ly_201, rf_199_4, ly_202, rf_199_5, ly_203, rf_199_6, ly_204, rf_199_10, okX2_205, rf_199_11, ly_209, rf_199_12, ly_210, rf_199_13, ly_211, rf_199_14, ly_212, rf_199_15, ly_213, rf_199_16, ly_214⟩
theorem okX7_215 : okX7 Rf0 NF 215 := ⟨by decide, ly_215, rf_215_1, ly_216, rf_215_2, ly_217, rf_215_4, ly_218, rf_215_5, ly_219, rf_215_6, ly_220, rf_215_10, okX2_221, rf_215_11, ly_225, rf_215_12, ly_226, rf_215_13, ly_227, rf_215_14, ly_228, rf_215_15, ly_229, rf_215_16, ly_230⟩
theorem okX5_231 : okX5 Rf0 NF 231 := ⟨by decide, ly_231, rf_231_4, ly_232, rf_231_5, ly_233, rf_231_6, ly_234⟩
theorem okX5_235 : okX5 Rf0 NF 235 := ⟨by decide, ly_235, rf_235_4, ly_236, rf_235_5, ly_237, rf_235_6, ly_238⟩
theorem okX5_239 : okX5 Rf0 NF 239 := ⟨by decide, ly_239, rf_239_4, ly_240, rf_239_5, ly_241, rf_239_6, ly_242⟩
theorem rfr_18 : ∀ j, j < 40 → Rf0 18 j = some (19 + 4 * j) := by decide +kernel
theorem okr_18 : ∀ j, j < 40 → okX5 Rf0 NF (19 + 4 * j) := by unfold okX5; decide +kernel
theorem rfr_179 : ∀ j, j < 3 → Rf0 179 j = some (231 + 4 * j) := by decide +kernel
theorem okr_179 : ∀ j, j < 3 → okX5 Rf0 NF (231 + 4 * j) := by unfold okX5; decide +kernel
theorem rfr_184 : ∀ j, j < 4 → Rf0 184 j = some (185 + j) := by decide +kernel
theorem lyr_184 : ∀ j, j < 4 → lay (185 + j) = .inr (0, 128) := by decide +kernel
theorem ltr_184 : ∀ j, j < 4 → 185 + j < NF := by decide +kernel
theorem rfr_189 : ∀ j, j < 5 → Rf0 189 j = some (190 + j) := by decide +kernel
theorem lyr_189 : ∀ j, j < 5 → lay (190 + j) = .inr (0, 128) := by decide +kernel
theorem ltr_189 : ∀ j, j < 5 → 190 + j < NF := by decide +kernel
theorem naX0_init : (parseMethodDescriptor yX0_init.desc).map (fun q => q.parameters.length) = some 0 := by decide +kernel
theorem naX0_add : (parseMethodDescriptor yX0_add.desc).map (fun q => q.parameters.length) = some 2 := by decide +kernel
theorem naX0_guestsLeft : (parseMethodDescriptor yX0_guestsLeft.desc).map (fun q => q.parameters.length) = some 2 := by decide +kernel
theorem naX0_agrees : (parseMethodDescriptor yX0_agrees.desc).map (fun q => q.parameters.length) = some 3 := by decide +kernel
theorem naX0_hourToLook : (parseMethodDescriptor yX0_hourToLook.desc).map (fun q => q.parameters.length) = some 2 := by decide +kernel
theorem naX0_seenAt : (parseMethodDescriptor yX0_seenAt.desc).map (fun q => q.parameters.length) = some 3 := by decide +kernel
theorem naX1_init : (parseMethodDescriptor yX1_init.desc).map (fun q => q.parameters.length) = some 0 := by decide +kernel
theorem naX1_ofGuestNow : (parseMethodDescriptor yX1_ofGuestNow.desc).map (fun q => q.parameters.length) = some 4 := by decide +kernel
theorem naX1_ofGuest : (parseMethodDescriptor yX1_ofGuest.desc).map (fun q => q.parameters.length) = some 6 := by decide +kernel
theorem naX1_ofSunday : (parseMethodDescriptor yX1_ofSunday.desc).map (fun q => q.parameters.length) = some 4 := by decide +kernel
theorem naX1_setSunday : (parseMethodDescriptor yX1_setSunday.desc).map (fun q => q.parameters.length) = some 3 := by decide +kernel
theorem naX1_answerHeld : (parseMethodDescriptor yX1_answerHeld.desc).map (fun q => q.parameters.length) = some 2 := by decide +kernel
theorem naX1_passWeek : (parseMethodDescriptor yX1_passWeek.desc).map (fun q => q.parameters.length) = some 2 := by decide +kernel
theorem naX1_passDeadlyWeeks : (parseMethodDescriptor yX1_passDeadlyWeeks.desc).map (fun q => q.parameters.length) = some 4 := by decide +kernel
theorem naX1_payAndRest : (parseMethodDescriptor yX1_payAndRest.desc).map (fun q => q.parameters.length) = some 2 := by decide +kernel
theorem naX1_wear : (parseMethodDescriptor yX1_wear.desc).map (fun q => q.parameters.length) = some 2 := by decide +kernel
theorem naX1_bury : (parseMethodDescriptor yX1_bury.desc).map (fun q => q.parameters.length) = some 3 := by decide +kernel
theorem naX1_lot : (parseMethodDescriptor yX1_lot.desc).map (fun q => q.parameters.length) = some 2 := by decide +kernel
theorem naX1_stir : (parseMethodDescriptor yX1_stir.desc).map (fun q => q.parameters.length) = some 2 := by decide +kernel
theorem naX2_init : (parseMethodDescriptor yX2_init.desc).map (fun q => q.parameters.length) = some 0 := by decide +kernel
theorem naX2_begin : (parseMethodDescriptor yX2_begin.desc).map (fun q => q.parameters.length) = some 0 := by decide +kernel
theorem naX2_addShortLaw : (parseMethodDescriptor yX2_addShortLaw.desc).map (fun q => q.parameters.length) = some 3 := by decide +kernel
theorem naX2_startLaw : (parseMethodDescriptor yX2_startLaw.desc).map (fun q => q.parameters.length) = some 1 := by decide +kernel
theorem naX2_add : (parseMethodDescriptor yX2_add.desc).map (fun q => q.parameters.length) = some 2 := by decide +kernel
theorem naX2_aimBehind : (parseMethodDescriptor yX2_aimBehind.desc).map (fun q => q.parameters.length) = some 1 := by decide +kernel
theorem naX2_answer : (parseMethodDescriptor yX2_answer.desc).map (fun q => q.parameters.length) = some 3 := by decide +kernel
theorem naX2_reckon : (parseMethodDescriptor yX2_reckon.desc).map (fun q => q.parameters.length) = some 3 := by decide +kernel
theorem naX3_init : (parseMethodDescriptor yX3_init.desc).map (fun q => q.parameters.length) = some 0 := by decide +kernel
theorem naX3_valueSets : (parseMethodDescriptor yX3_valueSets.desc).map (fun q => q.parameters.length) = some 4 := by decide +kernel
theorem naX3_livingFit : (parseMethodDescriptor yX3_livingFit.desc).map (fun q => q.parameters.length) = some 3 := by decide +kernel
theorem naX3_bestSet : (parseMethodDescriptor yX3_bestSet.desc).map (fun q => q.parameters.length) = some 2 := by decide +kernel
theorem naX3_letAll : (parseMethodDescriptor yX3_letAll.desc).map (fun q => q.parameters.length) = some 1 := by decide +kernel
theorem naX3_mostWith : (parseMethodDescriptor yX3_mostWith.desc).map (fun q => q.parameters.length) = some 2 := by decide +kernel
theorem naX3_setLetIn : (parseMethodDescriptor yX3_setLetIn.desc).map (fun q => q.parameters.length) = some 3 := by decide +kernel
theorem naX3_leastPart : (parseMethodDescriptor yX3_leastPart.desc).map (fun q => q.parameters.length) = some 2 := by decide +kernel
theorem naX3_leastCost : (parseMethodDescriptor yX3_leastCost.desc).map (fun q => q.parameters.length) = some 2 := by decide +kernel
theorem naX3_leastWith : (parseMethodDescriptor yX3_leastWith.desc).map (fun q => q.parameters.length) = some 4 := by decide +kernel
theorem naX3_fewestColours : (parseMethodDescriptor yX3_fewestColours.desc).map (fun q => q.parameters.length) = some 2 := by decide +kernel
theorem naX3_largestTangle : (parseMethodDescriptor yX3_largestTangle.desc).map (fun q => q.parameters.length) = some 2 := by decide +kernel
theorem naX3_isTangle : (parseMethodDescriptor yX3_isTangle.desc).map (fun q => q.parameters.length) = some 2 := by decide +kernel
theorem naX4_init : (parseMethodDescriptor yX4_init.desc).map (fun q => q.parameters.length) = some 0 := by decide +kernel
theorem naX4_readTape : (parseMethodDescriptor yX4_readTape.desc).map (fun q => q.parameters.length) = some 2 := by decide +kernel
theorem naX4_kind : (parseMethodDescriptor yX4_kind.desc).map (fun q => q.parameters.length) = some 0 := by decide +kernel
theorem naX4_readTell : (parseMethodDescriptor yX4_readTell.desc).map (fun q => q.parameters.length) = some 1 := by decide +kernel
theorem naX4_readSunday : (parseMethodDescriptor yX4_readSunday.desc).map (fun q => q.parameters.length) = some 1 := by decide +kernel
theorem naX4_readGuest : (parseMethodDescriptor yX4_readGuest.desc).map (fun q => q.parameters.length) = some 1 := by decide +kernel
theorem naX4_readFoes : (parseMethodDescriptor yX4_readFoes.desc).map (fun q => q.parameters.length) = some 1 := by decide +kernel
theorem naX4_readLaw : (parseMethodDescriptor yX4_readLaw.desc).map (fun q => q.parameters.length) = some 2 := by decide +kernel
theorem naX4_readSum : (parseMethodDescriptor yX4_readSum.desc).map (fun q => q.parameters.length) = some 2 := by decide +kernel
theorem naX4_readProduct : (parseMethodDescriptor yX4_readProduct.desc).map (fun q => q.parameters.length) = some 2 := by decide +kernel
theorem naX4_readUnit : (parseMethodDescriptor yX4_readUnit.desc).map (fun q => q.parameters.length) = some 2 := by decide +kernel
theorem naX4_take : (parseMethodDescriptor yX4_take.desc).map (fun q => q.parameters.length) = some 1 := by decide +kernel
theorem naX4_takeInt : (parseMethodDescriptor yX4_takeInt.desc).map (fun q => q.parameters.length) = some 2 := by decide +kernel
theorem naX4_takeNewName : (parseMethodDescriptor yX4_takeNewName.desc).map (fun q => q.parameters.length) = some 1 := by decide +kernel
theorem naX4_intBehind : (parseMethodDescriptor yX4_intBehind.desc).map (fun q => q.parameters.length) = some 1 := by decide +kernel
theorem naX4_fail : (parseMethodDescriptor yX4_fail.desc).map (fun q => q.parameters.length) = some 1 := by decide +kernel
theorem naX4_keepLate : (parseMethodDescriptor yX4_keepLate.desc).map (fun q => q.parameters.length) = some 2 := by decide +kernel
theorem naX5_init : (parseMethodDescriptor yX5_init.desc).map (fun q => q.parameters.length) = some 0 := by decide +kernel
theorem naX5_begin : (parseMethodDescriptor yX5_begin.desc).map (fun q => q.parameters.length) = some 0 := by decide +kernel
theorem naX5_copyFrom : (parseMethodDescriptor yX5_copyFrom.desc).map (fun q => q.parameters.length) = some 1 := by decide +kernel
theorem naX5_isDead : (parseMethodDescriptor yX5_isDead.desc).map (fun q => q.parameters.length) = some 1 := by decide +kernel
theorem naX5_isSold : (parseMethodDescriptor yX5_isSold.desc).map (fun q => q.parameters.length) = some 1 := by decide +kernel
theorem naX5_isIn : (parseMethodDescriptor yX5_isIn.desc).map (fun q => q.parameters.length) = some 2 := by decide +kernel
theorem naX5_whereIs : (parseMethodDescriptor yX5_whereIs.desc).map (fun q => q.parameters.length) = some 1 := by decide +kernel
theorem naX5_takeOut : (parseMethodDescriptor yX5_takeOut.desc).map (fun q => q.parameters.length) = some 1 := by decide +kernel
theorem naX5_allIn : (parseMethodDescriptor yX5_allIn.desc).map (fun q => q.parameters.length) = some 0 := by decide +kernel
theorem naX5_alive : (parseMethodDescriptor yX5_alive.desc).map (fun q => q.parameters.length) = some 1 := by decide +kernel
theorem naX6_init : (parseMethodDescriptor yX6_init.desc).map (fun q => q.parameters.length) = some 0 := by decide +kernel
theorem naX6_hasRoomFor : (parseMethodDescriptor yX6_hasRoomFor.desc).map (fun q => q.parameters.length) = some 1 := by decide +kernel
theorem naX6_addFour : (parseMethodDescriptor yX6_addFour.desc).map (fun q => q.parameters.length) = some 1 := by decide +kernel
theorem naX7_init : (parseMethodDescriptor yX7_init.desc).map (fun q => q.parameters.length) = some 0 := by decide +kernel
theorem naX7_begin : (parseMethodDescriptor yX7_begin.desc).map (fun q => q.parameters.length) = some 0 := by decide +kernel
theorem naX7_addSunday : (parseMethodDescriptor yX7_addSunday.desc).map (fun q => q.parameters.length) = some 3 := by decide +kernel
theorem naX7_addGuest : (parseMethodDescriptor yX7_addGuest.desc).map (fun q => q.parameters.length) = some 4 := by decide +kernel
theorem naX7_addFoes : (parseMethodDescriptor yX7_addFoes.desc).map (fun q => q.parameters.length) = some 2 := by decide +kernel
theorem naX7_areFoes : (parseMethodDescriptor yX7_areFoes.desc).map (fun q => q.parameters.length) = some 2 := by decide +kernel
theorem naX7_isNamed : (parseMethodDescriptor yX7_isNamed.desc).map (fun q => q.parameters.length) = some 1 := by decide +kernel
theorem naX7_guestNamed : (parseMethodDescriptor yX7_guestNamed.desc).map (fun q => q.parameters.length) = some 1 := by decide +kernel
theorem naX7_findClashes : (parseMethodDescriptor yX7_findClashes.desc).map (fun q => q.parameters.length) = some 0 := by decide +kernel
theorem naX7_isPeaceful : (parseMethodDescriptor yX7_isPeaceful.desc).map (fun q => q.parameters.length) = some 1 := by decide +kernel
theorem naX7_spanOf : (parseMethodDescriptor yX7_spanOf.desc).map (fun q => q.parameters.length) = some 1 := by decide +kernel
theorem naX7_hoursOf : (parseMethodDescriptor yX7_hoursOf.desc).map (fun q => q.parameters.length) = some 1 := by decide +kernel
theorem naX7_isThere : (parseMethodDescriptor yX7_isThere.desc).map (fun q => q.parameters.length) = some 2 := by decide +kernel
theorem naX7_isLongEnough : (parseMethodDescriptor yX7_isLongEnough.desc).map (fun q => q.parameters.length) = some 2 := by decide +kernel
theorem naX8_init : (parseMethodDescriptor yX8_init.desc).map (fun q => q.parameters.length) = some 0 := by decide +kernel
theorem naX8_cut : (parseMethodDescriptor yX8_cut.desc).map (fun q => q.parameters.length) = some 1 := by decide +kernel
theorem naX8_behindBlanks : (parseMethodDescriptor yX8_behindBlanks.desc).map (fun q => q.parameters.length) = some 2 := by decide +kernel
theorem naX8_cutOne : (parseMethodDescriptor yX8_cutOne.desc).map (fun q => q.parameters.length) = some 2 := by decide +kernel
theorem naX8_cutLetters : (parseMethodDescriptor yX8_cutLetters.desc).map (fun q => q.parameters.length) = some 2 := by decide +kernel
theorem naX8_cutDigits : (parseMethodDescriptor yX8_cutDigits.desc).map (fun q => q.parameters.length) = some 2 := by decide +kernel
theorem naX8_kindOf : (parseMethodDescriptor yX8_kindOf.desc).map (fun q => q.parameters.length) = some 1 := by decide +kernel
theorem naX8_add : (parseMethodDescriptor yX8_add.desc).map (fun q => q.parameters.length) = some 3 := by decide +kernel
theorem naX8_isBlank : (parseMethodDescriptor yX8_isBlank.desc).map (fun q => q.parameters.length) = some 1 := by decide +kernel
theorem naX8_isLetter : (parseMethodDescriptor yX8_isLetter.desc).map (fun q => q.parameters.length) = some 1 := by decide +kernel
theorem naX8_isDigit : (parseMethodDescriptor yX8_isDigit.desc).map (fun q => q.parameters.length) = some 1 := by decide +kernel
theorem naX9_init : (parseMethodDescriptor yX9_init.desc).map (fun q => q.parameters.length) = some 0 := by decide +kernel
theorem naX9_keep : (parseMethodDescriptor yX9_keep.desc).map (fun q => q.parameters.length) = some 1 := by decide +kernel
theorem naX9_takeBack : (parseMethodDescriptor yX9_takeBack.desc).map (fun q => q.parameters.length) = some 1 := by decide +kernel
theorem naX10_init : (parseMethodDescriptor yX10_init.desc).map (fun q => q.parameters.length) = some 0 := by decide +kernel
theorem naX10_feed : (parseMethodDescriptor yX10_feed.desc).map (fun q => q.parameters.length) = some 5 := by decide +kernel
theorem naX10_back : (parseMethodDescriptor yX10_back.desc).map (fun q => q.parameters.length) = some 1 := by decide +kernel
theorem naX10_read : (parseMethodDescriptor yX10_read.desc).map (fun q => q.parameters.length) = some 0 := by decide +kernel
theorem naX10_place : (parseMethodDescriptor yX10_place.desc).map (fun q => q.parameters.length) = some 0 := by decide +kernel
theorem naX10_sunday : (parseMethodDescriptor yX10_sunday.desc).map (fun q => q.parameters.length) = some 2 := by decide +kernel
theorem naX10_guest : (parseMethodDescriptor yX10_guest.desc).map (fun q => q.parameters.length) = some 2 := by decide +kernel
theorem naX10_at : (parseMethodDescriptor yX10_at.desc).map (fun q => q.parameters.length) = some 2 := by decide +kernel
theorem naX10_letIn : (parseMethodDescriptor yX10_letIn.desc).map (fun q => q.parameters.length) = some 2 := by decide +kernel
theorem naX10_putOut : (parseMethodDescriptor yX10_putOut.desc).map (fun q => q.parameters.length) = some 1 := by decide +kernel
theorem naX10_sell : (parseMethodDescriptor yX10_sell.desc).map (fun q => q.parameters.length) = some 1 := by decide +kernel
theorem naX10_air : (parseMethodDescriptor yX10_air.desc).map (fun q => q.parameters.length) = some 1 := by decide +kernel
theorem naX10_weeks : (parseMethodDescriptor yX10_weeks.desc).map (fun q => q.parameters.length) = some 1 := by decide +kernel
theorem naX10_undo : (parseMethodDescriptor yX10_undo.desc).map (fun q => q.parameters.length) = some 0 := by decide +kernel
theorem naX10_alone : (parseMethodDescriptor yX10_alone.desc).map (fun q => q.parameters.length) = some 2 := by decide +kernel
theorem naX10_letting : (parseMethodDescriptor yX10_letting.desc).map (fun q => q.parameters.length) = some 1 := by decide +kernel
theorem naX10_fewest : (parseMethodDescriptor yX10_fewest.desc).map (fun q => q.parameters.length) = some 1 := by decide +kernel
theorem naX10_colours : (parseMethodDescriptor yX10_colours.desc).map (fun q => q.parameters.length) = some 0 := by decide +kernel
theorem naX10_tangle : (parseMethodDescriptor yX10_tangle.desc).map (fun q => q.parameters.length) = some 1 := by decide +kernel
theorem naX10_fitting : (parseMethodDescriptor yX10_fitting.desc).map (fun q => q.parameters.length) = some 1 := by decide +kernel
theorem naX10_row : (parseMethodDescriptor yX10_row.desc).map (fun q => q.parameters.length) = some 2 := by decide +kernel
theorem naX10_change : (parseMethodDescriptor yX10_change.desc).map (fun q => q.parameters.length) = some 2 := by decide +kernel
theorem naX10_payer : (parseMethodDescriptor yX10_payer.desc).map (fun q => q.parameters.length) = some 1 := by decide +kernel
theorem naX10_idle : (parseMethodDescriptor yX10_idle.desc).map (fun q => q.parameters.length) = some 0 := by decide +kernel
theorem naX10_used : (parseMethodDescriptor yX10_used.desc).map (fun q => q.parameters.length) = some 2 := by decide +kernel
theorem naX10_first : (parseMethodDescriptor yX10_first.desc).map (fun q => q.parameters.length) = some 1 := by decide +kernel
theorem naX10_gap : (parseMethodDescriptor yX10_gap.desc).map (fun q => q.parameters.length) = some 2 := by decide +kernel
theorem naX10_room : (parseMethodDescriptor yX10_room.desc).map (fun q => q.parameters.length) = some 1 := by decide +kernel
theorem naX10_price : (parseMethodDescriptor yX10_price.desc).map (fun q => q.parameters.length) = some 2 := by decide +kernel
theorem naX10_best : (parseMethodDescriptor yX10_best.desc).map (fun q => q.parameters.length) = some 3 := by decide +kernel
theorem naX10_weary : (parseMethodDescriptor yX10_weary.desc).map (fun q => q.parameters.length) = some 1 := by decide +kernel
theorem naX10_earned : (parseMethodDescriptor yX10_earned.desc).map (fun q => q.parameters.length) = some 1 := by decide +kernel
theorem naX10_rivals : (parseMethodDescriptor yX10_rivals.desc).map (fun q => q.parameters.length) = some 1 := by decide +kernel
theorem naX10_then : (parseMethodDescriptor yX10_then.desc).map (fun q => q.parameters.length) = some 3 := by decide +kernel
theorem naX10_wornIn : (parseMethodDescriptor yX10_wornIn.desc).map (fun q => q.parameters.length) = some 2 := by decide +kernel
theorem naX10_year : (parseMethodDescriptor yX10_year.desc).map (fun q => q.parameters.length) = some 3 := by decide +kernel
theorem naX10_tell : (parseMethodDescriptor yX10_tell.desc).map (fun q => q.parameters.length) = some 2 := by decide +kernel
theorem naX10_forget : (parseMethodDescriptor yX10_forget.desc).map (fun q => q.parameters.length) = some 0 := by decide +kernel
theorem naX10_whose : (parseMethodDescriptor yX10_whose.desc).map (fun q => q.parameters.length) = some 2 := by decide +kernel
theorem naX10_look : (parseMethodDescriptor yX10_look.desc).map (fun q => q.parameters.length) = some 1 := by decide +kernel
theorem naX10_hold : (parseMethodDescriptor yX10_hold.desc).map (fun q => q.parameters.length) = some 1 := by decide +kernel
theorem naX10_restore : (parseMethodDescriptor yX10_restore.desc).map (fun q => q.parameters.length) = some 1 := by decide +kernel
theorem naX10_count : (parseMethodDescriptor yX10_count.desc).map (fun q => q.parameters.length) = some 1 := by decide +kernel
theorem naX10_isSunday : (parseMethodDescriptor yX10_isSunday.desc).map (fun q => q.parameters.length) = some 1 := by decide +kernel
theorem naX10_isGuest : (parseMethodDescriptor yX10_isGuest.desc).map (fun q => q.parameters.length) = some 1 := by decide +kernel
theorem naX10_isWeeks : (parseMethodDescriptor yX10_isWeeks.desc).map (fun q => q.parameters.length) = some 1 := by decide +kernel
theorem naX10_isOneOfTwo : (parseMethodDescriptor yX10_isOneOfTwo.desc).map (fun q => q.parameters.length) = some 1 := by decide +kernel
theorem naX10_couldGoIn : (parseMethodDescriptor yX10_couldGoIn.desc).map (fun q => q.parameters.length) = some 3 := by decide +kernel
theorem naX10_sundaysFitting : (parseMethodDescriptor yX10_sundaysFitting.desc).map (fun q => q.parameters.length) = some 1 := by decide +kernel
theorem naX10_earlierOnes : (parseMethodDescriptor yX10_earlierOnes.desc).map (fun q => q.parameters.length) = some 2 := by decide +kernel
theorem naX10_firstWeary : (parseMethodDescriptor yX10_firstWeary.desc).map (fun q => q.parameters.length) = some 0 := by decide +kernel
theorem naX10_moneyDue : (parseMethodDescriptor yX10_moneyDue.desc).map (fun q => q.parameters.length) = some 0 := by decide +kernel
theorem naX10_sumOf : (parseMethodDescriptor yX10_sumOf.desc).map (fun q => q.parameters.length) = some 1 := by decide +kernel
theorem naX10_clashingPairs : (parseMethodDescriptor yX10_clashingPairs.desc).map (fun q => q.parameters.length) = some 0 := by decide +kernel
theorem naX10_sundaysWithGuests : (parseMethodDescriptor yX10_sundaysWithGuests.desc).map (fun q => q.parameters.length) = some 0 := by decide +kernel
theorem naX10_guestsFittingAny : (parseMethodDescriptor yX10_guestsFittingAny.desc).map (fun q => q.parameters.length) = some 0 := by decide +kernel
theorem naX10_hoursNotSold : (parseMethodDescriptor yX10_hoursNotSold.desc).map (fun q => q.parameters.length) = some 0 := by decide +kernel
theorem naX10_feesOfLiving : (parseMethodDescriptor yX10_feesOfLiving.desc).map (fun q => q.parameters.length) = some 0 := by decide +kernel
theorem naX11_init : (parseMethodDescriptor yX11_init.desc).map (fun q => q.parameters.length) = some 0 := by decide +kernel
theorem naX11_feed : (parseMethodDescriptor yX11_feed.desc).map (fun q => q.parameters.length) = some 5 := by decide +kernel
theorem naX11_put : (parseMethodDescriptor yX11_put.desc).map (fun q => q.parameters.length) = some 1 := by decide +kernel
theorem naX11_back : (parseMethodDescriptor yX11_back.desc).map (fun q => q.parameters.length) = some 1 := by decide +kernel
theorem naX11_byteAt : (parseMethodDescriptor yX11_byteAt.desc).map (fun q => q.parameters.length) = some 1 := by decide +kernel
theorem naX11_isDigit : (parseMethodDescriptor yX11_isDigit.desc).map (fun q => q.parameters.length) = some 1 := by decide +kernel
theorem naX11_isLetter : (parseMethodDescriptor yX11_isLetter.desc).map (fun q => q.parameters.length) = some 1 := by decide +kernel
theorem naX11_appends : (parseMethodDescriptor yX11_appends.desc).map (fun q => q.parameters.length) = some 2 := by decide +kernel
theorem naX11_word : (parseMethodDescriptor yX11_word.desc).map (fun q => q.parameters.length) = some 7 := by decide +kernel
theorem naX11_token : (parseMethodDescriptor yX11_token.desc).map (fun q => q.parameters.length) = some 4 := by decide +kernel
theorem naX11_cut : (parseMethodDescriptor yX11_cut.desc).map (fun q => q.parameters.length) = some 0 := by decide +kernel
theorem naX11_sign : (parseMethodDescriptor yX11_sign.desc).map (fun q => q.parameters.length) = some 3 := by decide +kernel
theorem naX11_is : (parseMethodDescriptor yX11_is.desc).map (fun q => q.parameters.length) = some 1 := by decide +kernel
theorem naX11_fail : (parseMethodDescriptor yX11_fail.desc).map (fun q => q.parameters.length) = some 1 := by decide +kernel
theorem naX11_wrong : (parseMethodDescriptor yX11_wrong.desc).map (fun q => q.parameters.length) = some 2 := by decide +kernel
theorem naX11_goesOn : (parseMethodDescriptor yX11_goesOn.desc).map (fun q => q.parameters.length) = some 0 := by decide +kernel
theorem naX11_must : (parseMethodDescriptor yX11_must.desc).map (fun q => q.parameters.length) = some 1 := by decide +kernel
theorem naX11_plain : (parseMethodDescriptor yX11_plain.desc).map (fun q => q.parameters.length) = some 1 := by decide +kernel
theorem naX11_read : (parseMethodDescriptor yX11_read.desc).map (fun q => q.parameters.length) = some 0 := by decide +kernel
theorem naX11_place : (parseMethodDescriptor yX11_place.desc).map (fun q => q.parameters.length) = some 0 := by decide +kernel
theorem naX11_roomFor : (parseMethodDescriptor yX11_roomFor.desc).map (fun q => q.parameters.length) = some 2 := by decide +kernel
theorem naX11_toldInt : (parseMethodDescriptor yX11_toldInt.desc).map (fun q => q.parameters.length) = some 2 := by decide +kernel
theorem naX11_tellOne : (parseMethodDescriptor yX11_tellOne.desc).map (fun q => q.parameters.length) = some 0 := by decide +kernel
theorem naX11_named : (parseMethodDescriptor yX11_named.desc).map (fun q => q.parameters.length) = some 0 := by decide +kernel
theorem naX11_endsName : (parseMethodDescriptor yX11_endsName.desc).map (fun q => q.parameters.length) = some 2 := by decide +kernel
theorem naX11_known : (parseMethodDescriptor yX11_known.desc).map (fun q => q.parameters.length) = some 0 := by decide +kernel
theorem naX11_bounded : (parseMethodDescriptor yX11_bounded.desc).map (fun q => q.parameters.length) = some 2 := by decide +kernel
theorem naX11_tellFoes : (parseMethodDescriptor yX11_tellFoes.desc).map (fun q => q.parameters.length) = some 0 := by decide +kernel
theorem naX11_tellLaw : (parseMethodDescriptor yX11_tellLaw.desc).map (fun q => q.parameters.length) = some 1 := by decide +kernel
theorem naX11_term : (parseMethodDescriptor yX11_term.desc).map (fun q => q.parameters.length) = some 0 := by decide +kernel
theorem naX11_emit : (parseMethodDescriptor yX11_emit.desc).map (fun q => q.parameters.length) = some 2 := by decide +kernel
theorem naX11_comesOut : (parseMethodDescriptor yX11_comesOut.desc).map (fun q => q.parameters.length) = some 1 := by decide +kernel
theorem naX11_expression : (parseMethodDescriptor yX11_expression.desc).map (fun q => q.parameters.length) = some 0 := by decide +kernel
theorem naX11_unit : (parseMethodDescriptor yX11_unit.desc).map (fun q => q.parameters.length) = some 0 := by decide +kernel
theorem naX11_termOf : (parseMethodDescriptor yX11_termOf.desc).map (fun q => q.parameters.length) = some 2 := by decide +kernel
theorem naX11_in : (parseMethodDescriptor yX11_in.desc).map (fun q => q.parameters.length) = some 3 := by decide +kernel
theorem naX11_within : (parseMethodDescriptor yX11_within.desc).map (fun q => q.parameters.length) = some 3 := by decide +kernel
theorem naX11_bits : (parseMethodDescriptor yX11_bits.desc).map (fun q => q.parameters.length) = some 1 := by decide +kernel
theorem naX11_isSunday : (parseMethodDescriptor yX11_isSunday.desc).map (fun q => q.parameters.length) = some 1 := by decide +kernel
theorem naX11_isGuest : (parseMethodDescriptor yX11_isGuest.desc).map (fun q => q.parameters.length) = some 1 := by decide +kernel
theorem naX11_begins : (parseMethodDescriptor yX11_begins.desc).map (fun q => q.parameters.length) = some 0 := by decide +kernel
theorem naX11_keepsRow : (parseMethodDescriptor yX11_keepsRow.desc).map (fun q => q.parameters.length) = some 0 := by decide +kernel
theorem naX11_copies : (parseMethodDescriptor yX11_copies.desc).map (fun q => q.parameters.length) = some 0 := by decide +kernel
theorem naX11_copiesStill : (parseMethodDescriptor yX11_copiesStill.desc).map (fun q => q.parameters.length) = some 0 := by decide +kernel
theorem naX11_mixed : (parseMethodDescriptor yX11_mixed.desc).map (fun q => q.parameters.length) = some 2 := by decide +kernel
theorem naX11_lotOf : (parseMethodDescriptor yX11_lotOf.desc).map (fun q => q.parameters.length) = some 1 := by decide +kernel
theorem naX11_fromAt : (parseMethodDescriptor yX11_fromAt.desc).map (fun q => q.parameters.length) = some 1 := by decide +kernel
theorem naX11_tillAt : (parseMethodDescriptor yX11_tillAt.desc).map (fun q => q.parameters.length) = some 1 := by decide +kernel
theorem naX11_doClash : (parseMethodDescriptor yX11_doClash.desc).map (fun q => q.parameters.length) = some 2 := by decide +kernel
theorem naX11_clashBits : (parseMethodDescriptor yX11_clashBits.desc).map (fun q => q.parameters.length) = some 1 := by decide +kernel
theorem naX11_doesFit : (parseMethodDescriptor yX11_doesFit.desc).map (fun q => q.parameters.length) = some 2 := by decide +kernel
theorem naX11_guestBits : (parseMethodDescriptor yX11_guestBits.desc).map (fun q => q.parameters.length) = some 1 := by decide +kernel
theorem naX11_whoIsAt : (parseMethodDescriptor yX11_whoIsAt.desc).map (fun q => q.parameters.length) = some 2 := by decide +kernel
theorem naX11_hoursTaken : (parseMethodDescriptor yX11_hoursTaken.desc).map (fun q => q.parameters.length) = some 1 := by decide +kernel
theorem naX11_livingBits : (parseMethodDescriptor yX11_livingBits.desc).map (fun q => q.parameters.length) = some 0 := by decide +kernel
theorem naX11_lawTells : (parseMethodDescriptor yX11_lawTells.desc).map (fun q => q.parameters.length) = some 2 := by decide +kernel
theorem naX11_looksAt : (parseMethodDescriptor yX11_looksAt.desc).map (fun q => q.parameters.length) = some 1 := by decide +kernel
theorem naX11_looks : (parseMethodDescriptor yX11_looks.desc).map (fun q => q.parameters.length) = some 3 := by decide +kernel
theorem naX11_paysAt : (parseMethodDescriptor yX11_paysAt.desc).map (fun q => q.parameters.length) = some 3 := by decide +kernel
theorem naX11_restsAt : (parseMethodDescriptor yX11_restsAt.desc).map (fun q => q.parameters.length) = some 3 := by decide +kernel
theorem naX11_looksAll : (parseMethodDescriptor yX11_looksAll.desc).map (fun q => q.parameters.length) = some 1 := by decide +kernel
theorem naX11_wearsOf : (parseMethodDescriptor yX11_wearsOf.desc).map (fun q => q.parameters.length) = some 1 := by decide +kernel
theorem naX11_sellsOf : (parseMethodDescriptor yX11_sellsOf.desc).map (fun q => q.parameters.length) = some 1 := by decide +kernel
theorem naX11_othersOf : (parseMethodDescriptor yX11_othersOf.desc).map (fun q => q.parameters.length) = some 1 := by decide +kernel
theorem naX11_paysOf : (parseMethodDescriptor yX11_paysOf.desc).map (fun q => q.parameters.length) = some 1 := by decide +kernel
theorem naX11_restsOf : (parseMethodDescriptor yX11_restsOf.desc).map (fun q => q.parameters.length) = some 1 := by decide +kernel
theorem naX11_dueAll : (parseMethodDescriptor yX11_dueAll.desc).map (fun q => q.parameters.length) = some 0 := by decide +kernel
theorem naX11_restsIn : (parseMethodDescriptor yX11_restsIn.desc).map (fun q => q.parameters.length) = some 1 := by decide +kernel
theorem naX11_mayDie : (parseMethodDescriptor yX11_mayDie.desc).map (fun q => q.parameters.length) = some 1 := by decide +kernel
theorem naX11_weekGoes : (parseMethodDescriptor yX11_weekGoes.desc).map (fun q => q.parameters.length) = some 0 := by decide +kernel
theorem naX11_goes : (parseMethodDescriptor yX11_goes.desc).map (fun q => q.parameters.length) = some 1 := by decide +kernel
theorem naX11_sunday : (parseMethodDescriptor yX11_sunday.desc).map (fun q => q.parameters.length) = some 2 := by decide +kernel
theorem naX11_guest : (parseMethodDescriptor yX11_guest.desc).map (fun q => q.parameters.length) = some 2 := by decide +kernel
theorem naX11_at : (parseMethodDescriptor yX11_at.desc).map (fun q => q.parameters.length) = some 2 := by decide +kernel
theorem naX11_records : (parseMethodDescriptor yX11_records.desc).map (fun q => q.parameters.length) = some 0 := by decide +kernel
theorem naX11_mayGoIn : (parseMethodDescriptor yX11_mayGoIn.desc).map (fun q => q.parameters.length) = some 2 := by decide +kernel
theorem naX11_letIn : (parseMethodDescriptor yX11_letIn.desc).map (fun q => q.parameters.length) = some 2 := by decide +kernel
theorem naX11_putOut : (parseMethodDescriptor yX11_putOut.desc).map (fun q => q.parameters.length) = some 1 := by decide +kernel
theorem naX11_sell : (parseMethodDescriptor yX11_sell.desc).map (fun q => q.parameters.length) = some 1 := by decide +kernel
theorem naX11_air : (parseMethodDescriptor yX11_air.desc).map (fun q => q.parameters.length) = some 1 := by decide +kernel
theorem naX11_isLong : (parseMethodDescriptor yX11_isLong.desc).map (fun q => q.parameters.length) = some 1 := by decide +kernel
theorem naX11_weeks : (parseMethodDescriptor yX11_weeks.desc).map (fun q => q.parameters.length) = some 1 := by decide +kernel
theorem naX11_undo : (parseMethodDescriptor yX11_undo.desc).map (fun q => q.parameters.length) = some 0 := by decide +kernel
theorem naX11_lowestOf : (parseMethodDescriptor yX11_lowestOf.desc).map (fun q => q.parameters.length) = some 1 := by decide +kernel
theorem naX11_isPart : (parseMethodDescriptor yX11_isPart.desc).map (fun q => q.parameters.length) = some 2 := by decide +kernel
theorem naX11_valueAt : (parseMethodDescriptor yX11_valueAt.desc).map (fun q => q.parameters.length) = some 2 := by decide +kernel
theorem naX11_fillsValues : (parseMethodDescriptor yX11_fillsValues.desc).map (fun q => q.parameters.length) = some 0 := by decide +kernel
theorem naX11_alone : (parseMethodDescriptor yX11_alone.desc).map (fun q => q.parameters.length) = some 2 := by decide +kernel
theorem naX11_bestWith : (parseMethodDescriptor yX11_bestWith.desc).map (fun q => q.parameters.length) = some 3 := by decide +kernel
theorem naX11_canBe : (parseMethodDescriptor yX11_canBe.desc).map (fun q => q.parameters.length) = some 3 := by decide +kernel
theorem naX11_fillsBest : (parseMethodDescriptor yX11_fillsBest.desc).map (fun q => q.parameters.length) = some 0 := by decide +kernel
theorem naX11_leastFor : (parseMethodDescriptor yX11_leastFor.desc).map (fun q => q.parameters.length) = some 2 := by decide +kernel
theorem naX11_letting : (parseMethodDescriptor yX11_letting.desc).map (fun q => q.parameters.length) = some 1 := by decide +kernel
theorem naX11_areAllIn : (parseMethodDescriptor yX11_areAllIn.desc).map (fun q => q.parameters.length) = some 2 := by decide +kernel
theorem naX11_fewest : (parseMethodDescriptor yX11_fewest.desc).map (fun q => q.parameters.length) = some 1 := by decide +kernel
theorem naX11_isCalm : (parseMethodDescriptor yX11_isCalm.desc).map (fun q => q.parameters.length) = some 1 := by decide +kernel
theorem naX11_colours : (parseMethodDescriptor yX11_colours.desc).map (fun q => q.parameters.length) = some 0 := by decide +kernel
theorem naX11_isTangle : (parseMethodDescriptor yX11_isTangle.desc).map (fun q => q.parameters.length) = some 1 := by decide +kernel
theorem naX11_tangle : (parseMethodDescriptor yX11_tangle.desc).map (fun q => q.parameters.length) = some 1 := by decide +kernel
theorem naX11_rivals : (parseMethodDescriptor yX11_rivals.desc).map (fun q => q.parameters.length) = some 1 := by decide +kernel
theorem naX11_fitBits : (parseMethodDescriptor yX11_fitBits.desc).map (fun q => q.parameters.length) = some 1 := by decide +kernel
theorem naX11_fitting : (parseMethodDescriptor yX11_fitting.desc).map (fun q => q.parameters.length) = some 1 := by decide +kernel
theorem naX11_row : (parseMethodDescriptor yX11_row.desc).map (fun q => q.parameters.length) = some 2 := by decide +kernel
theorem naX11_change : (parseMethodDescriptor yX11_change.desc).map (fun q => q.parameters.length) = some 2 := by decide +kernel
theorem naX11_room : (parseMethodDescriptor yX11_room.desc).map (fun q => q.parameters.length) = some 1 := by decide +kernel
theorem naX11_payer : (parseMethodDescriptor yX11_payer.desc).map (fun q => q.parameters.length) = some 1 := by decide +kernel
theorem naX11_idle : (parseMethodDescriptor yX11_idle.desc).map (fun q => q.parameters.length) = some 0 := by decide +kernel
theorem naX11_gap : (parseMethodDescriptor yX11_gap.desc).map (fun q => q.parameters.length) = some 2 := by decide +kernel
theorem naX11_used : (parseMethodDescriptor yX11_used.desc).map (fun q => q.parameters.length) = some 2 := by decide +kernel
theorem naX11_isWeary : (parseMethodDescriptor yX11_isWeary.desc).map (fun q => q.parameters.length) = some 1 := by decide +kernel
theorem naX11_first : (parseMethodDescriptor yX11_first.desc).map (fun q => q.parameters.length) = some 1 := by decide +kernel
theorem naX11_weary : (parseMethodDescriptor yX11_weary.desc).map (fun q => q.parameters.length) = some 1 := by decide +kernel
theorem naX11_isForSale : (parseMethodDescriptor yX11_isForSale.desc).map (fun q => q.parameters.length) = some 1 := by decide +kernel
theorem naX11_price : (parseMethodDescriptor yX11_price.desc).map (fun q => q.parameters.length) = some 2 := by decide +kernel
theorem naX11_best : (parseMethodDescriptor yX11_best.desc).map (fun q => q.parameters.length) = some 3 := by decide +kernel
theorem naX11_earned : (parseMethodDescriptor yX11_earned.desc).map (fun q => q.parameters.length) = some 1 := by decide +kernel
theorem naX11_then : (parseMethodDescriptor yX11_then.desc).map (fun q => q.parameters.length) = some 3 := by decide +kernel
theorem naX11_wornIn : (parseMethodDescriptor yX11_wornIn.desc).map (fun q => q.parameters.length) = some 2 := by decide +kernel
theorem naX11_year : (parseMethodDescriptor yX11_year.desc).map (fun q => q.parameters.length) = some 3 := by decide +kernel
theorem naX11_tell : (parseMethodDescriptor yX11_tell.desc).map (fun q => q.parameters.length) = some 2 := by decide +kernel
theorem naX11_forget : (parseMethodDescriptor yX11_forget.desc).map (fun q => q.parameters.length) = some 0 := by decide +kernel
theorem naX11_isThere : (parseMethodDescriptor yX11_isThere.desc).map (fun q => q.parameters.length) = some 2 := by decide +kernel
theorem naX11_whoseBits : (parseMethodDescriptor yX11_whoseBits.desc).map (fun q => q.parameters.length) = some 1 := by decide +kernel
theorem naX11_whose : (parseMethodDescriptor yX11_whose.desc).map (fun q => q.parameters.length) = some 2 := by decide +kernel
theorem naX11_look : (parseMethodDescriptor yX11_look.desc).map (fun q => q.parameters.length) = some 1 := by decide +kernel
theorem naX11_hold : (parseMethodDescriptor yX11_hold.desc).map (fun q => q.parameters.length) = some 1 := by decide +kernel
theorem naX11_restore : (parseMethodDescriptor yX11_restore.desc).map (fun q => q.parameters.length) = some 1 := by decide +kernel
theorem naX11_sumNow : (parseMethodDescriptor yX11_sumNow.desc).map (fun q => q.parameters.length) = some 2 := by decide +kernel
theorem naX11_count : (parseMethodDescriptor yX11_count.desc).map (fun q => q.parameters.length) = some 1 := by decide +kernel
theorem naJ11_isValidCodePoint_9a6ad : (parseMethodDescriptor yJ11_isValidCodePoint_9a6ad.desc).map (fun q => q.parameters.length) = some 1 := by decide +kernel
theorem naJ11_highSurrogate_5068e : (parseMethodDescriptor yJ11_highSurrogate_5068e.desc).map (fun q => q.parameters.length) = some 1 := by decide +kernel
theorem naJ11_lowSurrogate_5068e : (parseMethodDescriptor yJ11_lowSurrogate_5068e.desc).map (fun q => q.parameters.length) = some 1 := by decide +kernel
theorem naJ6_numberOfTrailingZeros_0f7a4 : (parseMethodDescriptor yJ6_numberOfTrailingZeros_0f7a4.desc).map (fun q => q.parameters.length) = some 1 := by decide +kernel
theorem naJ6_bitCount_0f7a4 : (parseMethodDescriptor yJ6_bitCount_0f7a4.desc).map (fun q => q.parameters.length) = some 1 := by decide +kernel
theorem naJ13_bitCount_95d88 : (parseMethodDescriptor yJ13_bitCount_95d88.desc).map (fun q => q.parameters.length) = some 1 := by decide +kernel
theorem naJ9_max_7cf53 : (parseMethodDescriptor yJ9_max_7cf53.desc).map (fun q => q.parameters.length) = some 2 := by decide +kernel
theorem naJ9_min_7cf53 : (parseMethodDescriptor yJ9_min_7cf53.desc).map (fun q => q.parameters.length) = some 2 := by decide +kernel
theorem naJ0_length_8abf5 : (parseMethodDescriptor yJ0_length_8abf5.desc).map (fun q => q.parameters.length) = some 0 := by decide +kernel
theorem naJ0_charAt_5068e : (parseMethodDescriptor yJ0_charAt_5068e.desc).map (fun q => q.parameters.length) = some 1 := by decide +kernel
theorem naJ0_indexOf_0f7a4 : (parseMethodDescriptor yJ0_indexOf_0f7a4.desc).map (fun q => q.parameters.length) = some 1 := by decide +kernel
theorem naJ0_indexOf_7cf53 : (parseMethodDescriptor yJ0_indexOf_7cf53.desc).map (fun q => q.parameters.length) = some 2 := by decide +kernel
theorem naJ0_coder_7d493 : (parseMethodDescriptor yJ0_coder_7d493.desc).map (fun q => q.parameters.length) = some 0 := by decide +kernel
theorem naJ0_isLatin1_aae02 : (parseMethodDescriptor yJ0_isLatin1_aae02.desc).map (fun q => q.parameters.length) = some 0 := by decide +kernel
theorem naJ0_checkIndex_df160 : (parseMethodDescriptor yJ0_checkIndex_df160.desc).map (fun q => q.parameters.length) = some 2 := by decide +kernel
theorem naJ0_checkBoundsBeginEnd_23922 : (parseMethodDescriptor yJ0_checkBoundsBeginEnd_23922.desc).map (fun q => q.parameters.length) = some 3 := by decide +kernel
theorem naJ1_charAt_3b067 : (parseMethodDescriptor yJ1_charAt_3b067.desc).map (fun q => q.parameters.length) = some 2 := by decide +kernel
theorem naJ1_canEncode_9a6ad : (parseMethodDescriptor yJ1_canEncode_9a6ad.desc).map (fun q => q.parameters.length) = some 1 := by decide +kernel
theorem naJ1_indexOf_4cfef : (parseMethodDescriptor yJ1_indexOf_4cfef.desc).map (fun q => q.parameters.length) = some 4 := by decide +kernel
theorem naJ1_indexOfChar_4cfef : (parseMethodDescriptor yJ1_indexOfChar_4cfef.desc).map (fun q => q.parameters.length) = some 4 := by decide +kernel
theorem naJ2_getChar_3b067 : (parseMethodDescriptor yJ2_getChar_3b067.desc).map (fun q => q.parameters.length) = some 2 := by decide +kernel
theorem naJ2_length_9d52b : (parseMethodDescriptor yJ2_length_9d52b.desc).map (fun q => q.parameters.length) = some 1 := by decide +kernel
theorem naJ2_indexOf_4cfef : (parseMethodDescriptor yJ2_indexOf_4cfef.desc).map (fun q => q.parameters.length) = some 4 := by decide +kernel
theorem naJ2_indexOfChar_4cfef : (parseMethodDescriptor yJ2_indexOfChar_4cfef.desc).map (fun q => q.parameters.length) = some 4 := by decide +kernel
theorem naJ2_indexOfCharUnsafe_4cfef : (parseMethodDescriptor yJ2_indexOfCharUnsafe_4cfef.desc).map (fun q => q.parameters.length) = some 4 := by decide +kernel
theorem naJ2_indexOfSupplementary_4cfef : (parseMethodDescriptor yJ2_indexOfSupplementary_4cfef.desc).map (fun q => q.parameters.length) = some 4 := by decide +kernel
theorem naJ2_charAt_3b067 : (parseMethodDescriptor yJ2_charAt_3b067.desc).map (fun q => q.parameters.length) = some 2 := by decide +kernel
theorem naJ2_checkIndex_2214a : (parseMethodDescriptor yJ2_checkIndex_2214a.desc).map (fun q => q.parameters.length) = some 2 := by decide +kernel
theorem naJ2_checkBoundsBeginEnd_d044e : (parseMethodDescriptor yJ2_checkBoundsBeginEnd_d044e.desc).map (fun q => q.parameters.length) = some 3 := by decide +kernel
theorem naJ3_checkIndex_8e157 : (parseMethodDescriptor yJ3_checkIndex_8e157.desc).map (fun q => q.parameters.length) = some 3 := by decide +kernel
theorem naJ3_checkFromToIndex_8c36e : (parseMethodDescriptor yJ3_checkFromToIndex_8c36e.desc).map (fun q => q.parameters.length) = some 4 := by decide +kernel
