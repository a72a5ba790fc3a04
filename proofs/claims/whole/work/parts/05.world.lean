/-! the world: places (objects and arrays that the constructors make, in the order of their making), a memory of whole numbers over places and slots -/
abbrev Mem : Type := Nat → Nat → Int
abbrev PR : Type := Option (Int × Mem)
def kdT : List Nat := [6, 5, 2400, 5012, 1, 2008, 2008, 2008, 2008, 2008, 2008, 4008, 2008, 2008, 2008, 1, 2008, 2008, 2008, 2008, 2008, 2008, 4008, 2008, 2008, 2008, 1, 2008, 2008, 2008, 2008, 2008, 2008, 4008, 2008, 2008, 2008, 1, 2008, 2008, 2008, 2008, 2008, 2008, 4008, 2008, 2008, 2008, 1, 2008, 2008, 2008, 2008, 2008, 2008, 4008, 2008, 2008, 2008, 1, 2008, 2008, 2008, 2008, 2008, 2008, 4008, 2008, 2008, 2008, 1, 2008, 2008, 2008, 2008, 2008, 2008, 4008, 2008, 2008, 2008, 1, 2008, 2008, 2008, 2008, 2008, 2008, 4008, 2008, 2008, 2008, 1, 2008, 2008, 2008, 2008, 2008, 2008, 4008, 2008, 2008, 2008, 1, 2008, 2008, 2008, 2008, 2008, 2008, 4008, 2008, 2008, 2008, 1, 2008, 2008, 2008, 2008, 2008, 2008, 4008, 2008, 2008, 2008, 1, 2008, 2008, 2008, 2008, 2008, 2008, 4008, 2008, 2008, 2008, 2, 5012, 1, 2008, 2008, 2008, 2008, 2008, 2008, 4008, 2008, 2008, 2008, 1, 2008, 2008, 2008, 2008, 2008, 2008, 4008, 2008, 2008, 2008, 1, 2008, 2008, 2008, 2008, 2008, 2008, 4008, 2008, 2008, 2008, 1, 2008, 2008, 2008, 2008, 2008, 2008, 4008, 2008, 2008, 2008, 1, 2008, 2008, 2008, 2008, 2008, 2008, 4008, 2008, 2008, 2008, 1, 2008, 2008, 2008, 2008, 2008, 2008, 4008, 2008, 2008, 2008, 1, 2008, 2008, 2008, 2008, 2008, 2008, 4008, 2008, 2008, 2008, 1, 2008, 2008, 2008, 2008, 2008, 2008, 4008, 2008, 2008, 2008, 1, 2008, 2008, 2008, 2008, 2008, 2008, 4008, 2008, 2008, 2008, 1, 2008, 2008, 2008, 2008, 2008, 2008, 4008, 2008, 2008, 2008, 1, 2008, 2008, 2008, 2008, 2008, 2008, 4008, 2008, 2008, 2008, 1, 2008, 2008, 2008, 2008, 2008, 2008, 4008, 2008, 2008, 2008, 6010, 2010, 1, 2008, 2008, 2008, 2008, 2008, 2008, 4008, 2008, 2008, 2008, 4, 2012, 2012, 2012, 4, 2012, 2012, 2012, 4, 2012, 2012, 2012, 4, 2012, 2012, 2012, 4, 2012, 2012, 2012, 4, 2012, 2012, 2012, 4, 2012, 2012, 2012, 4, 2012, 2012, 2012, 4, 2012, 2012, 2012, 4, 2012, 2012, 2012, 3, 3016, 0, 2008, 2008, 7, 2012, 2012, 2096, 2096, 3096, 3096, 2012, 2012, 4012, 2010, 4010, 1400, 3032, 2012, 2012, 2096, 2096, 3010, 3010, 3096, 4096, 2010, 2120, 2010, 4012, 2010, 3010, 3096, 3096, 3096, 3010, 2010, 3001]
def kd (k : Nat) : Nat := kdT.getD k 9999
abbrev NN : Nat := 362
def ftyT : List (List Nat) := [[2, 2, 0], [0, 0, 0, 0, 0, 2, 2, 2, 2, 2, 2, 2, 2, 2, 2], [2, 0, 2, 0, 0, 0, 0, 0, 1, 1, 2, 0, 2], [2, 0], [0, 0, 0, 0, 0, 0, 0, 0, 0, 2, 2, 2], [2, 0, 2, 0, 0, 0, 0], [2, 2, 2, 2], [2, 2, 2, 2, 2, 2, 2, 2, 2, 0, 0, 0, 0, 0, 2, 2, 2, 0, 2, 0, 0, 2, 2, 2, 2, 0, 0, 0, 0, 2, 2, 2, 2, 2, 2, 2, 0, 0, 2, 2, 0, 2, 2, 2, 2, 2, 1, 1, 2, 0]]
def fty (d : Nat) : List Nat := ftyT.getD d []
def soT : List (List Nat) := [[1, 2, 0], [0, 0, 0, 0, 0, 1, 2, 3, 4, 5, 6, 7, 8, 9, 10], [0, 0, 134, 0, 0, 0, 0, 0, 0, 0, 135, 0, 136], [1, 0], [0, 0, 0, 0, 0, 0, 0, 0, 0, 1, 2, 3], [1, 0, 0, 0, 0, 0, 0], [1, 136, 323, 325], [1, 2, 3, 4, 5, 6, 7, 8, 9, 0, 0, 0, 0, 0, 10, 11, 12, 0, 13, 0, 0, 14, 15, 16, 17, 0, 0, 0, 0, 18, 19, 20, 21, 22, 23, 24, 0, 0, 25, 26, 0, 27, 28, 29, 30, 31, 0, 0, 32, 0]]
def so (d j : Nat) : Nat := (soT.getD d []).getD j 0
def dyf (d j : Nat) : Bool := (d == 2 && j == 0) || (d == 5 && j == 2)
theorem kd_0 : kd 0 = 6 := by decide +kernel
theorem kd_1 : kd 1 = 5 := by decide +kernel
theorem kd_2 : kd 2 = 2400 := by decide +kernel
theorem kd_3 : kd 3 = 5012 := by decide +kernel
theorem kd_4 : kd 4 = 1 := by decide +kernel
theorem kd_5 : kd 5 = 2008 := by decide +kernel
theorem kd_6 : kd 6 = 2008 := by decide +kernel
theorem kd_7 : kd 7 = 2008 := by decide +kernel
theorem kd_8 : kd 8 = 2008 := by decide +kernel
theorem kd_9 : kd 9 = 2008 := by decide +kernel
theorem kd_10 : kd 10 = 2008 := by decide +kernel
theorem kd_11 : kd 11 = 4008 := by decide +kernel
theorem kd_12 : kd 12 = 2008 := by decide +kernel
theorem kd_13 : kd 13 = 2008 := by decide +kernel
theorem kd_14 : kd 14 = 2008 := by decide +kernel
theorem kd_15 : kd 15 = 1 := by decide +kernel
theorem kd_16 : kd 16 = 2008 := by decide +kernel
theorem kd_17 : kd 17 = 2008 := by decide +kernel
theorem kd_18 : kd 18 = 2008 := by decide +kernel
theorem kd_19 : kd 19 = 2008 := by decide +kernel
theorem kd_20 : kd 20 = 2008 := by decide +kernel
theorem kd_21 : kd 21 = 2008 := by decide +kernel
theorem kd_22 : kd 22 = 4008 := by decide +kernel
theorem kd_23 : kd 23 = 2008 := by decide +kernel
theorem kd_24 : kd 24 = 2008 := by decide +kernel
theorem kd_25 : kd 25 = 2008 := by decide +kernel
theorem kd_26 : kd 26 = 1 := by decide +kernel
theorem kd_27 : kd 27 = 2008 := by decide +kernel
theorem kd_28 : kd 28 = 2008 := by decide +kernel
theorem kd_29 : kd 29 = 2008 := by decide +kernel
theorem kd_30 : kd 30 = 2008 := by decide +kernel
theorem kd_31 : kd 31 = 2008 := by decide +kernel
theorem kd_32 : kd 32 = 2008 := by decide +kernel
theorem kd_33 : kd 33 = 4008 := by decide +kernel
theorem kd_34 : kd 34 = 2008 := by decide +kernel
theorem kd_35 : kd 35 = 2008 := by decide +kernel
theorem kd_36 : kd 36 = 2008 := by decide +kernel
theorem kd_37 : kd 37 = 1 := by decide +kernel
theorem kd_38 : kd 38 = 2008 := by decide +kernel
theorem kd_39 : kd 39 = 2008 := by decide +kernel
theorem kd_40 : kd 40 = 2008 := by decide +kernel
theorem kd_41 : kd 41 = 2008 := by decide +kernel
theorem kd_42 : kd 42 = 2008 := by decide +kernel
theorem kd_43 : kd 43 = 2008 := by decide +kernel
theorem kd_44 : kd 44 = 4008 := by decide +kernel
theorem kd_45 : kd 45 = 2008 := by decide +kernel
theorem kd_46 : kd 46 = 2008 := by decide +kernel
theorem kd_47 : kd 47 = 2008 := by decide +kernel
theorem kd_48 : kd 48 = 1 := by decide +kernel
theorem kd_49 : kd 49 = 2008 := by decide +kernel
theorem kd_50 : kd 50 = 2008 := by decide +kernel
theorem kd_51 : kd 51 = 2008 := by decide +kernel
theorem kd_52 : kd 52 = 2008 := by decide +kernel
theorem kd_53 : kd 53 = 2008 := by decide +kernel
theorem kd_54 : kd 54 = 2008 := by decide +kernel
theorem kd_55 : kd 55 = 4008 := by decide +kernel
theorem kd_56 : kd 56 = 2008 := by decide +kernel
theorem kd_57 : kd 57 = 2008 := by decide +kernel
theorem kd_58 : kd 58 = 2008 := by decide +kernel
theorem kd_59 : kd 59 = 1 := by decide +kernel
theorem kd_60 : kd 60 = 2008 := by decide +kernel
theorem kd_61 : kd 61 = 2008 := by decide +kernel
theorem kd_62 : kd 62 = 2008 := by decide +kernel
theorem kd_63 : kd 63 = 2008 := by decide +kernel
theorem kd_64 : kd 64 = 2008 := by decide +kernel
theorem kd_65 : kd 65 = 2008 := by decide +kernel
theorem kd_66 : kd 66 = 4008 := by decide +kernel
theorem kd_67 : kd 67 = 2008 := by decide +kernel
theorem kd_68 : kd 68 = 2008 := by decide +kernel
theorem kd_69 : kd 69 = 2008 := by decide +kernel
theorem kd_70 : kd 70 = 1 := by decide +kernel
theorem kd_71 : kd 71 = 2008 := by decide +kernel
theorem kd_72 : kd 72 = 2008 := by decide +kernel
theorem kd_73 : kd 73 = 2008 := by decide +kernel
theorem kd_74 : kd 74 = 2008 := by decide +kernel
theorem kd_75 : kd 75 = 2008 := by decide +kernel
theorem kd_76 : kd 76 = 2008 := by decide +kernel
theorem kd_77 : kd 77 = 4008 := by decide +kernel
theorem kd_78 : kd 78 = 2008 := by decide +kernel
theorem kd_79 : kd 79 = 2008 := by decide +kernel
theorem kd_80 : kd 80 = 2008 := by decide +kernel
theorem kd_81 : kd 81 = 1 := by decide +kernel
theorem kd_82 : kd 82 = 2008 := by decide +kernel
theorem kd_83 : kd 83 = 2008 := by decide +kernel
theorem kd_84 : kd 84 = 2008 := by decide +kernel
theorem kd_85 : kd 85 = 2008 := by decide +kernel
theorem kd_86 : kd 86 = 2008 := by decide +kernel
theorem kd_87 : kd 87 = 2008 := by decide +kernel
theorem kd_88 : kd 88 = 4008 := by decide +kernel
theorem kd_89 : kd 89 = 2008 := by decide +kernel
theorem kd_90 : kd 90 = 2008 := by decide +kernel
theorem kd_91 : kd 91 = 2008 := by decide +kernel
theorem kd_92 : kd 92 = 1 := by decide +kernel
theorem kd_93 : kd 93 = 2008 := by decide +kernel
theorem kd_94 : kd 94 = 2008 := by decide +kernel
theorem kd_95 : kd 95 = 2008 := by decide +kernel
theorem kd_96 : kd 96 = 2008 := by decide +kernel
theorem kd_97 : kd 97 = 2008 := by decide +kernel
theorem kd_98 : kd 98 = 2008 := by decide +kernel
theorem kd_99 : kd 99 = 4008 := by decide +kernel
theorem kd_100 : kd 100 = 2008 := by decide +kernel
theorem kd_101 : kd 101 = 2008 := by decide +kernel
theorem kd_102 : kd 102 = 2008 := by decide +kernel
theorem kd_103 : kd 103 = 1 := by decide +kernel
theorem kd_104 : kd 104 = 2008 := by decide +kernel
theorem kd_105 : kd 105 = 2008 := by decide +kernel
theorem kd_106 : kd 106 = 2008 := by decide +kernel
theorem kd_107 : kd 107 = 2008 := by decide +kernel
theorem kd_108 : kd 108 = 2008 := by decide +kernel
theorem kd_109 : kd 109 = 2008 := by decide +kernel
theorem kd_110 : kd 110 = 4008 := by decide +kernel
theorem kd_111 : kd 111 = 2008 := by decide +kernel
theorem kd_112 : kd 112 = 2008 := by decide +kernel
theorem kd_113 : kd 113 = 2008 := by decide +kernel
theorem kd_114 : kd 114 = 1 := by decide +kernel
theorem kd_115 : kd 115 = 2008 := by decide +kernel
theorem kd_116 : kd 116 = 2008 := by decide +kernel
theorem kd_117 : kd 117 = 2008 := by decide +kernel
theorem kd_118 : kd 118 = 2008 := by decide +kernel
theorem kd_119 : kd 119 = 2008 := by decide +kernel
theorem kd_120 : kd 120 = 2008 := by decide +kernel
theorem kd_121 : kd 121 = 4008 := by decide +kernel
theorem kd_122 : kd 122 = 2008 := by decide +kernel
theorem kd_123 : kd 123 = 2008 := by decide +kernel
theorem kd_124 : kd 124 = 2008 := by decide +kernel
theorem kd_125 : kd 125 = 1 := by decide +kernel
theorem kd_126 : kd 126 = 2008 := by decide +kernel
theorem kd_127 : kd 127 = 2008 := by decide +kernel
theorem kd_128 : kd 128 = 2008 := by decide +kernel
theorem kd_129 : kd 129 = 2008 := by decide +kernel
theorem kd_130 : kd 130 = 2008 := by decide +kernel
theorem kd_131 : kd 131 = 2008 := by decide +kernel
theorem kd_132 : kd 132 = 4008 := by decide +kernel
theorem kd_133 : kd 133 = 2008 := by decide +kernel
theorem kd_134 : kd 134 = 2008 := by decide +kernel
theorem kd_135 : kd 135 = 2008 := by decide +kernel
theorem kd_136 : kd 136 = 2 := by decide +kernel
theorem kd_137 : kd 137 = 5012 := by decide +kernel
theorem kd_138 : kd 138 = 1 := by decide +kernel
theorem kd_139 : kd 139 = 2008 := by decide +kernel
theorem kd_140 : kd 140 = 2008 := by decide +kernel
theorem kd_141 : kd 141 = 2008 := by decide +kernel
theorem kd_142 : kd 142 = 2008 := by decide +kernel
theorem kd_143 : kd 143 = 2008 := by decide +kernel
theorem kd_144 : kd 144 = 2008 := by decide +kernel
theorem kd_145 : kd 145 = 4008 := by decide +kernel
theorem kd_146 : kd 146 = 2008 := by decide +kernel
theorem kd_147 : kd 147 = 2008 := by decide +kernel
theorem kd_148 : kd 148 = 2008 := by decide +kernel
theorem kd_149 : kd 149 = 1 := by decide +kernel
theorem kd_150 : kd 150 = 2008 := by decide +kernel
theorem kd_151 : kd 151 = 2008 := by decide +kernel
theorem kd_152 : kd 152 = 2008 := by decide +kernel
theorem kd_153 : kd 153 = 2008 := by decide +kernel
theorem kd_154 : kd 154 = 2008 := by decide +kernel
theorem kd_155 : kd 155 = 2008 := by decide +kernel
theorem kd_156 : kd 156 = 4008 := by decide +kernel
theorem kd_157 : kd 157 = 2008 := by decide +kernel
theorem kd_158 : kd 158 = 2008 := by decide +kernel
theorem kd_159 : kd 159 = 2008 := by decide +kernel
theorem kd_160 : kd 160 = 1 := by decide +kernel
theorem kd_161 : kd 161 = 2008 := by decide +kernel
theorem kd_162 : kd 162 = 2008 := by decide +kernel
theorem kd_163 : kd 163 = 2008 := by decide +kernel
theorem kd_164 : kd 164 = 2008 := by decide +kernel
theorem kd_165 : kd 165 = 2008 := by decide +kernel
theorem kd_166 : kd 166 = 2008 := by decide +kernel
theorem kd_167 : kd 167 = 4008 := by decide +kernel
theorem kd_168 : kd 168 = 2008 := by decide +kernel
theorem kd_169 : kd 169 = 2008 := by decide +kernel
theorem kd_170 : kd 170 = 2008 := by decide +kernel
theorem kd_171 : kd 171 = 1 := by decide +kernel
theorem kd_172 : kd 172 = 2008 := by decide +kernel
theorem kd_173 : kd 173 = 2008 := by decide +kernel
theorem kd_174 : kd 174 = 2008 := by decide +kernel
theorem kd_175 : kd 175 = 2008 := by decide +kernel
theorem kd_176 : kd 176 = 2008 := by decide +kernel
theorem kd_177 : kd 177 = 2008 := by decide +kernel
theorem kd_178 : kd 178 = 4008 := by decide +kernel
theorem kd_179 : kd 179 = 2008 := by decide +kernel
theorem kd_180 : kd 180 = 2008 := by decide +kernel
theorem kd_181 : kd 181 = 2008 := by decide +kernel
theorem kd_182 : kd 182 = 1 := by decide +kernel
theorem kd_183 : kd 183 = 2008 := by decide +kernel
theorem kd_184 : kd 184 = 2008 := by decide +kernel
theorem kd_185 : kd 185 = 2008 := by decide +kernel
theorem kd_186 : kd 186 = 2008 := by decide +kernel
theorem kd_187 : kd 187 = 2008 := by decide +kernel
theorem kd_188 : kd 188 = 2008 := by decide +kernel
theorem kd_189 : kd 189 = 4008 := by decide +kernel
theorem kd_190 : kd 190 = 2008 := by decide +kernel
theorem kd_191 : kd 191 = 2008 := by decide +kernel
theorem kd_192 : kd 192 = 2008 := by decide +kernel
theorem kd_193 : kd 193 = 1 := by decide +kernel
theorem kd_194 : kd 194 = 2008 := by decide +kernel
theorem kd_195 : kd 195 = 2008 := by decide +kernel
theorem kd_196 : kd 196 = 2008 := by decide +kernel
theorem kd_197 : kd 197 = 2008 := by decide +kernel
theorem kd_198 : kd 198 = 2008 := by decide +kernel
theorem kd_199 : kd 199 = 2008 := by decide +kernel
theorem kd_200 : kd 200 = 4008 := by decide +kernel
theorem kd_201 : kd 201 = 2008 := by decide +kernel
theorem kd_202 : kd 202 = 2008 := by decide +kernel
theorem kd_203 : kd 203 = 2008 := by decide +kernel
theorem kd_204 : kd 204 = 1 := by decide +kernel
theorem kd_205 : kd 205 = 2008 := by decide +kernel
theorem kd_206 : kd 206 = 2008 := by decide +kernel
theorem kd_207 : kd 207 = 2008 := by decide +kernel
theorem kd_208 : kd 208 = 2008 := by decide +kernel
theorem kd_209 : kd 209 = 2008 := by decide +kernel
theorem kd_210 : kd 210 = 2008 := by decide +kernel
theorem kd_211 : kd 211 = 4008 := by decide +kernel
theorem kd_212 : kd 212 = 2008 := by decide +kernel
theorem kd_213 : kd 213 = 2008 := by decide +kernel
theorem kd_214 : kd 214 = 2008 := by decide +kernel
theorem kd_215 : kd 215 = 1 := by decide +kernel
theorem kd_216 : kd 216 = 2008 := by decide +kernel
theorem kd_217 : kd 217 = 2008 := by decide +kernel
theorem kd_218 : kd 218 = 2008 := by decide +kernel
theorem kd_219 : kd 219 = 2008 := by decide +kernel
theorem kd_220 : kd 220 = 2008 := by decide +kernel
theorem kd_221 : kd 221 = 2008 := by decide +kernel
theorem kd_222 : kd 222 = 4008 := by decide +kernel
theorem kd_223 : kd 223 = 2008 := by decide +kernel
theorem kd_224 : kd 224 = 2008 := by decide +kernel
theorem kd_225 : kd 225 = 2008 := by decide +kernel
theorem kd_226 : kd 226 = 1 := by decide +kernel
theorem kd_227 : kd 227 = 2008 := by decide +kernel
theorem kd_228 : kd 228 = 2008 := by decide +kernel
theorem kd_229 : kd 229 = 2008 := by decide +kernel
theorem kd_230 : kd 230 = 2008 := by decide +kernel
theorem kd_231 : kd 231 = 2008 := by decide +kernel
theorem kd_232 : kd 232 = 2008 := by decide +kernel
theorem kd_233 : kd 233 = 4008 := by decide +kernel
theorem kd_234 : kd 234 = 2008 := by decide +kernel
theorem kd_235 : kd 235 = 2008 := by decide +kernel
theorem kd_236 : kd 236 = 2008 := by decide +kernel
theorem kd_237 : kd 237 = 1 := by decide +kernel
theorem kd_238 : kd 238 = 2008 := by decide +kernel
theorem kd_239 : kd 239 = 2008 := by decide +kernel
theorem kd_240 : kd 240 = 2008 := by decide +kernel
theorem kd_241 : kd 241 = 2008 := by decide +kernel
theorem kd_242 : kd 242 = 2008 := by decide +kernel
theorem kd_243 : kd 243 = 2008 := by decide +kernel
theorem kd_244 : kd 244 = 4008 := by decide +kernel
theorem kd_245 : kd 245 = 2008 := by decide +kernel
theorem kd_246 : kd 246 = 2008 := by decide +kernel
theorem kd_247 : kd 247 = 2008 := by decide +kernel
theorem kd_248 : kd 248 = 1 := by decide +kernel
theorem kd_249 : kd 249 = 2008 := by decide +kernel
theorem kd_250 : kd 250 = 2008 := by decide +kernel
theorem kd_251 : kd 251 = 2008 := by decide +kernel
theorem kd_252 : kd 252 = 2008 := by decide +kernel
theorem kd_253 : kd 253 = 2008 := by decide +kernel
theorem kd_254 : kd 254 = 2008 := by decide +kernel
theorem kd_255 : kd 255 = 4008 := by decide +kernel
theorem kd_256 : kd 256 = 2008 := by decide +kernel
theorem kd_257 : kd 257 = 2008 := by decide +kernel
theorem kd_258 : kd 258 = 2008 := by decide +kernel
theorem kd_259 : kd 259 = 1 := by decide +kernel
theorem kd_260 : kd 260 = 2008 := by decide +kernel
theorem kd_261 : kd 261 = 2008 := by decide +kernel
theorem kd_262 : kd 262 = 2008 := by decide +kernel
theorem kd_263 : kd 263 = 2008 := by decide +kernel
theorem kd_264 : kd 264 = 2008 := by decide +kernel
theorem kd_265 : kd 265 = 2008 := by decide +kernel
theorem kd_266 : kd 266 = 4008 := by decide +kernel
theorem kd_267 : kd 267 = 2008 := by decide +kernel
theorem kd_268 : kd 268 = 2008 := by decide +kernel
theorem kd_269 : kd 269 = 2008 := by decide +kernel
theorem kd_270 : kd 270 = 6010 := by decide +kernel
theorem kd_271 : kd 271 = 2010 := by decide +kernel
theorem kd_272 : kd 272 = 1 := by decide +kernel
theorem kd_273 : kd 273 = 2008 := by decide +kernel
theorem kd_274 : kd 274 = 2008 := by decide +kernel
theorem kd_275 : kd 275 = 2008 := by decide +kernel
theorem kd_276 : kd 276 = 2008 := by decide +kernel
theorem kd_277 : kd 277 = 2008 := by decide +kernel
theorem kd_278 : kd 278 = 2008 := by decide +kernel
theorem kd_279 : kd 279 = 4008 := by decide +kernel
theorem kd_280 : kd 280 = 2008 := by decide +kernel
theorem kd_281 : kd 281 = 2008 := by decide +kernel
theorem kd_282 : kd 282 = 2008 := by decide +kernel
theorem kd_283 : kd 283 = 4 := by decide +kernel
theorem kd_284 : kd 284 = 2012 := by decide +kernel
theorem kd_285 : kd 285 = 2012 := by decide +kernel
theorem kd_286 : kd 286 = 2012 := by decide +kernel
theorem kd_287 : kd 287 = 4 := by decide +kernel
theorem kd_288 : kd 288 = 2012 := by decide +kernel
theorem kd_289 : kd 289 = 2012 := by decide +kernel
theorem kd_290 : kd 290 = 2012 := by decide +kernel
theorem kd_291 : kd 291 = 4 := by decide +kernel
theorem kd_292 : kd 292 = 2012 := by decide +kernel
theorem kd_293 : kd 293 = 2012 := by decide +kernel
theorem kd_294 : kd 294 = 2012 := by decide +kernel
theorem kd_295 : kd 295 = 4 := by decide +kernel
theorem kd_296 : kd 296 = 2012 := by decide +kernel
theorem kd_297 : kd 297 = 2012 := by decide +kernel
theorem kd_298 : kd 298 = 2012 := by decide +kernel
theorem kd_299 : kd 299 = 4 := by decide +kernel
theorem kd_300 : kd 300 = 2012 := by decide +kernel
theorem kd_301 : kd 301 = 2012 := by decide +kernel
theorem kd_302 : kd 302 = 2012 := by decide +kernel
theorem kd_303 : kd 303 = 4 := by decide +kernel
theorem kd_304 : kd 304 = 2012 := by decide +kernel
theorem kd_305 : kd 305 = 2012 := by decide +kernel
theorem kd_306 : kd 306 = 2012 := by decide +kernel
theorem kd_307 : kd 307 = 4 := by decide +kernel
theorem kd_308 : kd 308 = 2012 := by decide +kernel
theorem kd_309 : kd 309 = 2012 := by decide +kernel
theorem kd_310 : kd 310 = 2012 := by decide +kernel
theorem kd_311 : kd 311 = 4 := by decide +kernel
theorem kd_312 : kd 312 = 2012 := by decide +kernel
theorem kd_313 : kd 313 = 2012 := by decide +kernel
theorem kd_314 : kd 314 = 2012 := by decide +kernel
theorem kd_315 : kd 315 = 4 := by decide +kernel
theorem kd_316 : kd 316 = 2012 := by decide +kernel
theorem kd_317 : kd 317 = 2012 := by decide +kernel
theorem kd_318 : kd 318 = 2012 := by decide +kernel
theorem kd_319 : kd 319 = 4 := by decide +kernel
theorem kd_320 : kd 320 = 2012 := by decide +kernel
theorem kd_321 : kd 321 = 2012 := by decide +kernel
theorem kd_322 : kd 322 = 2012 := by decide +kernel
theorem kd_323 : kd 323 = 3 := by decide +kernel
theorem kd_324 : kd 324 = 3016 := by decide +kernel
theorem kd_325 : kd 325 = 0 := by decide +kernel
theorem kd_326 : kd 326 = 2008 := by decide +kernel
theorem kd_327 : kd 327 = 2008 := by decide +kernel
theorem kd_328 : kd 328 = 7 := by decide +kernel
theorem kd_329 : kd 329 = 2012 := by decide +kernel
theorem kd_330 : kd 330 = 2012 := by decide +kernel
theorem kd_331 : kd 331 = 2096 := by decide +kernel
theorem kd_332 : kd 332 = 2096 := by decide +kernel
theorem kd_333 : kd 333 = 3096 := by decide +kernel
theorem kd_334 : kd 334 = 3096 := by decide +kernel
theorem kd_335 : kd 335 = 2012 := by decide +kernel
theorem kd_336 : kd 336 = 2012 := by decide +kernel
theorem kd_337 : kd 337 = 4012 := by decide +kernel
theorem kd_338 : kd 338 = 2010 := by decide +kernel
theorem kd_339 : kd 339 = 4010 := by decide +kernel
theorem kd_340 : kd 340 = 1400 := by decide +kernel
theorem kd_341 : kd 341 = 3032 := by decide +kernel
theorem kd_342 : kd 342 = 2012 := by decide +kernel
theorem kd_343 : kd 343 = 2012 := by decide +kernel
theorem kd_344 : kd 344 = 2096 := by decide +kernel
theorem kd_345 : kd 345 = 2096 := by decide +kernel
theorem kd_346 : kd 346 = 3010 := by decide +kernel
theorem kd_347 : kd 347 = 3010 := by decide +kernel
theorem kd_348 : kd 348 = 3096 := by decide +kernel
theorem kd_349 : kd 349 = 4096 := by decide +kernel
theorem kd_350 : kd 350 = 2010 := by decide +kernel
theorem kd_351 : kd 351 = 2120 := by decide +kernel
theorem kd_352 : kd 352 = 2010 := by decide +kernel
theorem kd_353 : kd 353 = 4012 := by decide +kernel
theorem kd_354 : kd 354 = 2010 := by decide +kernel
theorem kd_355 : kd 355 = 3010 := by decide +kernel
theorem kd_356 : kd 356 = 3096 := by decide +kernel
theorem kd_357 : kd 357 = 3096 := by decide +kernel
theorem kd_358 : kd 358 = 3096 := by decide +kernel
theorem kd_359 : kd 359 = 3010 := by decide +kernel
theorem kd_360 : kd 360 = 2010 := by decide +kernel
theorem kd_361 : kd 361 = 3001 := by decide +kernel

theorem kd_lt {k d : Nat} (h : kd k = d) (hd : d ≠ 9999) : k < NN := by
  rcases Nat.lt_or_ge k NN with q | q
  · exact q
  · exfalso
    apply hd
    rw [← h]
    unfold kd
    rw [List.getD_eq_getElem?_getD, List.getElem?_eq_none (Nat.le_trans (Nat.le_of_eq (by decide +kernel)) q)]
    rfl

theorem kdL1 {L : Nat} (h : kd L = 1) : kd (L + 1) = 2008 := (by decide +kernel : ∀ L, L < NN → kd L = 1 → kd (L + 1) = 2008) L (kd_lt h (by decide)) h
theorem kdL2 {L : Nat} (h : kd L = 1) : kd (L + 2) = 2008 := (by decide +kernel : ∀ L, L < NN → kd L = 1 → kd (L + 2) = 2008) L (kd_lt h (by decide)) h
theorem kdL3 {L : Nat} (h : kd L = 1) : kd (L + 3) = 2008 := (by decide +kernel : ∀ L, L < NN → kd L = 1 → kd (L + 3) = 2008) L (kd_lt h (by decide)) h
theorem kdL4 {L : Nat} (h : kd L = 1) : kd (L + 4) = 2008 := (by decide +kernel : ∀ L, L < NN → kd L = 1 → kd (L + 4) = 2008) L (kd_lt h (by decide)) h
theorem kdL5 {L : Nat} (h : kd L = 1) : kd (L + 5) = 2008 := (by decide +kernel : ∀ L, L < NN → kd L = 1 → kd (L + 5) = 2008) L (kd_lt h (by decide)) h
theorem kdL6 {L : Nat} (h : kd L = 1) : kd (L + 6) = 2008 := (by decide +kernel : ∀ L, L < NN → kd L = 1 → kd (L + 6) = 2008) L (kd_lt h (by decide)) h
theorem kdL7 {L : Nat} (h : kd L = 1) : kd (L + 7) = 4008 := (by decide +kernel : ∀ L, L < NN → kd L = 1 → kd (L + 7) = 4008) L (kd_lt h (by decide)) h
theorem kdL8 {L : Nat} (h : kd L = 1) : kd (L + 8) = 2008 := (by decide +kernel : ∀ L, L < NN → kd L = 1 → kd (L + 8) = 2008) L (kd_lt h (by decide)) h
theorem kdL9 {L : Nat} (h : kd L = 1) : kd (L + 9) = 2008 := (by decide +kernel : ∀ L, L < NN → kd L = 1 → kd (L + 9) = 2008) L (kd_lt h (by decide)) h
theorem kdL10 {L : Nat} (h : kd L = 1) : kd (L + 10) = 2008 := (by decide +kernel : ∀ L, L < NN → kd L = 1 → kd (L + 10) = 2008) L (kd_lt h (by decide)) h
theorem kdS1 {L : Nat} (h : kd L = 4) : kd (L + 1) = 2012 := (by decide +kernel : ∀ L, L < NN → kd L = 4 → kd (L + 1) = 2012) L (kd_lt h (by decide)) h
theorem kdS2 {L : Nat} (h : kd L = 4) : kd (L + 2) = 2012 := (by decide +kernel : ∀ L, L < NN → kd L = 4 → kd (L + 2) = 2012) L (kd_lt h (by decide)) h
theorem kdS3 {L : Nat} (h : kd L = 4) : kd (L + 3) = 2012 := (by decide +kernel : ∀ L, L < NN → kd L = 4 → kd (L + 3) = 2012) L (kd_lt h (by decide)) h
theorem kdStop {i : Nat} (h : i < 10) : kd (283 + 4 * i) = 4 := (by decide +kernel : ∀ i, i < 10 → kd (283 + 4 * i) = 4) i h
theorem kd5012 {a : Nat} (h : kd a = 5012) : a = 3 ∨ a = 137 := (by decide +kernel : ∀ L, L < NN → kd L = 5012 → L = 3 ∨ L = 137) a (kd_lt h (by decide)) h
theorem kd6010 {a : Nat} (h : kd a = 6010) : a = 270 := (by decide +kernel : ∀ L, L < NN → kd L = 6010 → L = 270) a (kd_lt h (by decide)) h
/-! ===== memory, values ===== -/
def mset (σ : Mem) (k j : Nat) (v : Int) : Mem := fun a => if a = k then (fun b => if b = j then v else σ k b) else σ a
theorem mset_same (σ : Mem) (k j : Nat) (v : Int) : mset σ k j v k j = v := by simp [mset]
theorem mset_place (σ : Mem) {k a : Nat} (j : Nat) (v : Int) (h : a ≠ k) : mset σ k j v a = σ a := by simp [mset, h]
theorem mset_slot (σ : Mem) (k : Nat) {j b : Nat} (v : Int) (h : b ≠ j) : mset σ k j v k b = σ k b := by simp [mset, h]
abbrev iv (x : Int) : Value := .int (Int32.ofInt x)
abbrev jv (x : Int) : Value := .long (Int64.ofInt x)
abbrev rv (B k : Nat) : Value := .ref (B + k)
def w32 (x : Int) : Int := (Int32.ofInt x).toInt
def w64 (x : Int) : Int := (Int64.ofInt x).toInt
/-- a reference in a memory: 0 null, else a place and one -/
def rfo (B : Nat) (v : Int) : Option Nat := if v ≤ 0 then none else some (B + (v.toNat - 1))
def pl (v : Int) : Nat := v.toNat - 1
def fv (B : Nat) (t : Nat) (v : Int) : Value := if t = 0 then iv v else if t = 1 then jv v else va_rf (rfo B v)
def flds (B : Nat) (f : Nat → Int) (ts : List Nat) : List Value := ts.zipIdx.map (fun q => fv B q.1 (f q.2))
theorem flds_get {B : Nat} {f : Nat → Int} {ts : List Nat} {j t : Nat} (h : ts[j]? = some t) : (flds B f ts)[j]? = some (fv B t (f j)) := by
  simp [flds, List.getElem?_map, List.getElem?_zipIdx, h]
theorem flds_len (B : Nat) (f : Nat → Int) (ts : List Nat) : (flds B f ts).length = ts.length := by simp [flds]
theorem flds_set {B : Nat} {f : Nat → Int} {ts : List Nat} {j t : Nat} {v : Int} (h : ts[j]? = some t) : (flds B f ts).set j (fv B t v) = flds B (fun b => if b = j then v else f b) ts := by
  apply List.ext_getElem?
  intro i
  rw [List.getElem?_set]
  by_cases hi : j = i
  · subst hi
    have hl : j < ts.length := (List.getElem?_eq_some_iff.mp h).1
    simp only [if_true, flds_len, hl]
    rw [flds_get h]
    simp
  · rw [if_neg hi]
    cases ht : ts[i]? with
    | none => simp [flds, List.getElem?_map, List.getElem?_zipIdx, ht]
    | some u => rw [flds_get ht, flds_get ht, if_neg (fun e => hi e.symm)]
/-- a cell of kind d that holds f -/
def cellR (B : Nat) (ca : Nat → ClassId) (f : Nat → Int) (d : Nat) : va_E :=
  if d < 8 then .inr (d, flds B f (fty d))
  else if d / 1000 = 3 then .inl (ca 3, d % 1000, .inr (.inl fun i => Int64.ofInt (f i)))
  else if d / 1000 = 5 ∨ d / 1000 = 6 then .inl (ca (d / 1000), d % 1000, .inr (.inr (.inr (.inr fun i => rfo B (f i)))))
  else .inl (ca (d / 1000), d % 1000, .inl fun i => Int32.ofInt (f i))
def wl (B : Nat) (ca : Nat → ClassId) (σ : Mem) (n : Nat) : va_W := (List.range n).map (fun k => (B + k, cellR B ca (σ k) (kd k)))
theorem wl_get {B : Nat} {ca : Nat → ClassId} {σ : Mem} {n k : Nat} (h : k < n) : (wl B ca σ n)[k]? = some (B + k, cellR B ca (σ k) (kd k)) := by
  simp [wl, List.getElem?_map, List.getElem?_range h]
theorem wl_at {B : Nat} {ca : Nat → ClassId} {σ : Mem} {n k d : Nat} (h : k < n) (hk : kd k = d) : (wl B ca σ n)[k]? = some (B + k, cellR B ca (σ k) d) := by
  rw [wl_get h, hk]
theorem wl_set {B : Nat} {ca : Nat → ClassId} {σ : Mem} {n k d : Nat} {j : Nat} {v : Int} (h : k < n) (hk : kd k = d) {e : va_E} (he : e = cellR B ca (fun b => if b = j then v else σ k b) d) : (wl B ca σ n).set k (B + k, e) = wl B ca (mset σ k j v) n := by
  apply List.ext_getElem?
  intro i
  rw [List.getElem?_set]
  by_cases hi : k = i
  · subst hi
    have : k < (wl B ca σ n).length := by simp [wl, h]
    simp only [if_true, this]
    rw [wl_at h hk, he]
    simp [mset]
  · rw [if_neg hi]
    by_cases hl : i < n
    · rw [wl_get hl, wl_get hl, mset_place _ _ _ (fun e => hi e.symm)]
    · simp [wl, hl]
theorem wl_D {B : Nat} {ca : Nat → ClassId} {σ : Mem} {n : Nat} : va_D (fun a => B ≤ a) (wl B ca σ n) := by
  refine ⟨fun i j p q hp hq e => ?_, fun k q hk => ?_⟩
  · have hi : i < n := by have := (List.getElem?_eq_some_iff.mp hp).1; simpa [wl] using this
    have hj : j < n := by have := (List.getElem?_eq_some_iff.mp hq).1; simpa [wl] using this
    rw [wl_get hi] at hp
    rw [wl_get hj] at hq
    cases hp; cases hq
    simp at e
    exact e
  · have hi : k < n := by have := (List.getElem?_eq_some_iff.mp hk).1; simpa [wl] using this
    rw [wl_get hi] at hk
    cases hk
    exact Nat.le_add_right _ _
abbrev tyL (ca : Nat → ClassId) : List (ClassId × FieldType) := [(ca 1, .byte), (ca 2, .int), (ca 3, .long), (ca 4, .boolean), (ca 5, .object RX1), (ca 6, .object RX4)]
/-- references that never change -/
def St (σ : Mem) : Prop := ∀ k j, so (kd k) j ≠ 0 → σ k j = ((k + so (kd k) j + 1 : Nat) : Int)
/-- references that change are good ones -/
def Vd (σ : Mem) : Prop := (∀ k j, dyf (kd k) j = true → 0 < σ k j ∧ kd (pl (σ k j)) = 5012) ∧ (∀ a, kd a = 5012 → ∀ i, i < 12 → 0 < σ a i ∧ kd (pl (σ a i)) = 1) ∧ (∀ i : Nat, i < 10 → σ 270 i = (283 + 4 * i + 1 : Nat))
def FW (D : va_G) (ca : Nat → ClassId) (B : Nat) (σ : Mem) (H : Heap) : Prop := va_P D vwCl (wl B ca σ NN) H ∧ St σ ∧ Vd σ
theorem St.put {σ : Mem} {k j : Nat} {v : Int} (h : St σ) (hk : so (kd k) j = 0) : St (mset σ k j v) := by
  intro a b hab
  by_cases ha : a = k
  · subst ha
    by_cases hb : b = j
    · subst hb; exact absurd hk hab
    · rw [mset_slot _ _ _ hb]; exact h a b hab
  · rw [mset_place _ _ _ ha]; exact h a b hab
theorem Vd.put {σ : Mem} {k j : Nat} {v : Int} (h : Vd σ) (hk : dyf (kd k) j = false) (h1 : kd k ≠ 5012) (h2 : kd k ≠ 6010) : Vd (mset σ k j v) := by
  refine ⟨fun a b hab => ?_, fun a ha i hi => ?_, fun i hi => ?_⟩
  · by_cases ha : a = k
    · subst ha
      by_cases hb : b = j
      · subst hb; rw [hk] at hab; cases hab
      · rw [mset_slot _ _ _ hb]; exact h.1 a b hab
    · rw [mset_place _ _ _ ha]; exact h.1 a b hab
  · rw [mset_place _ _ _ (fun e => h1 (by rw [← e]; exact ha))]; exact h.2.1 a ha i hi
  · rw [mset_place _ _ _ (fun e => h2 (by rw [← e]; decide +kernel))]; exact h.2.2 i hi
theorem w32_nat (i : Int) : (Int32.ofInt i).toNatClampNeg = (w32 i).toNat := rfl
theorem in_of32 {i : Int} {n : Nat} (h : 0 ≤ w32 i ∧ w32 i < n) : vp_in (Int32.ofInt i) n := by
  intro q
  rcases q with q | q
  · have h1 := Int32.lt_iff_toInt_lt.mp q
    have h2 : (0 : Int32).toInt = 0 := rfl
    rw [h2] at h1
    exact absurd h.1 (Int.not_le.mpr h1)
  · rw [w32_nat] at q
    omega
/-! ===== pure words of the turned methods ===== -/
def bnd (m : PR) (c : Int → Mem → PR) : PR := match m with
  | none => none
  | some q => c q.1 q.2
theorem bnd_some {m : PR} {c : Int → Mem → PR} {q : Int × Mem} (h : bnd m c = some q) : ∃ r σ, m = some (r, σ) ∧ c r σ = some q := by
  cases m with
  | none => cases h
  | some x => exact ⟨x.1, x.2, rfl, h⟩
def lt (e : Int) (c : Int → PR) : PR := c e
/-- an array's read: its place, its length, an index -/
def rdI (σ : Mem) (k n : Nat) (i : Int) (c : Int → PR) : PR := if 0 ≤ w32 i ∧ w32 i < n then c (σ k (w32 i).toNat) else none
def rdR (σ : Mem) (k n : Nat) (i : Int) (c : Nat → PR) : PR := if 0 ≤ w32 i ∧ w32 i < n then c (pl (σ k (w32 i).toNat)) else none
def rdS (i : Int) (c : Nat → PR) : PR := if 0 ≤ w32 i ∧ w32 i < 10 then c (283 + 4 * (w32 i).toNat) else none
def rfd (v : Int) (c : Nat → PR) : PR := c (pl v)
def wrI (σ : Mem) (k n : Nat) (i v : Int) (c : Mem → PR) : PR := if 0 ≤ w32 i ∧ w32 i < n then c (mset σ k (w32 i).toNat v) else none
def stf (σ : Mem) (k j : Nat) (v : Int) (c : Mem → PR) : PR := c (mset σ k j v)
def stz (σ : Mem) (k j : Nat) (v : Int) (c : Mem → PR) : PR := if v = 0 ∨ v = 1 then c (mset σ k j v) else none
def rtz (v : Int) (σ : Mem) : PR := if v = 0 ∨ v = 1 then some (v, σ) else none
def dv32 (d : Int) (c : PR) : PR := if w32 d = 0 then none else c
def dv64 (d : Int) (c : PR) : PR := if w64 d = 0 then none else c
def n8 (v : Int) : Int := (vp_nar .byte (Int32.ofInt v)).toInt
def n1 (v : Int) : Int := (vp_nar .boolean (Int32.ofInt v)).toInt
def b8 (v : Int) : Int := (Int32.ofInt v).toInt8.toInt32.toInt
def and32 (a b : Int) : Int := (Int32.ofInt a &&& Int32.ofInt b).toInt
def or32 (a b : Int) : Int := (Int32.ofInt a ||| Int32.ofInt b).toInt
def xor32 (a b : Int) : Int := (Int32.ofInt a ^^^ Int32.ofInt b).toInt
def shl32 (a b : Int) : Int := (Int32.ofInt a <<< (Int32.ofInt b &&& 31)).toInt
def shr32 (a b : Int) : Int := (Int32.ofInt a >>> (Int32.ofInt b &&& 31)).toInt
def ushr32 (a b : Int) : Int := (((Int32.ofInt a).toUInt32 >>> ((Int32.ofInt b).toUInt32 &&& Int32.toUInt32 31)).toInt32).toInt
def div32 (a b : Int) : Int := (Int32.ofInt a / Int32.ofInt b).toInt
def rem32 (a b : Int) : Int := (Int32.ofInt a - Int32.ofInt a / Int32.ofInt b * Int32.ofInt b).toInt
def div64 (a b : Int) : Int := (Int64.ofInt a / Int64.ofInt b).toInt

