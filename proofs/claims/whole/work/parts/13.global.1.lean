-- FrameHeirs$Deeds.copyFrom(LFrameHeirs$Deeds;)V
abbrev rm_X0_copyFrom : Room := { frames := 1, cells := 0, slots := 0, locals := 40 }
theorem dX0_copyFrom_0 : decode cX0_copyFrom 0 = .ok (.aload_n 1, 1) := by decide +kernel
theorem dX0_copyFrom_1 : decode cX0_copyFrom 1 = .ok (.getfield 9, 3) := by decide +kernel
theorem dX0_copyFrom_4 : decode cX0_copyFrom 4 = .ok (.iconst 0, 1) := by decide +kernel
theorem dX0_copyFrom_5 : decode cX0_copyFrom 5 = .ok (.aload_n 0, 1) := by decide +kernel
theorem dX0_copyFrom_6 : decode cX0_copyFrom 6 = .ok (.getfield 9, 3) := by decide +kernel
theorem dX0_copyFrom_9 : decode cX0_copyFrom 9 = .ok (.iconst 0, 1) := by decide +kernel
theorem dX0_copyFrom_10 : decode cX0_copyFrom 10 = .ok (.aload_n 1, 1) := by decide +kernel
theorem dX0_copyFrom_11 : decode cX0_copyFrom 11 = .ok (.getfield 61, 3) := by decide +kernel
theorem dX0_copyFrom_14 : decode cX0_copyFrom 14 = .ok (.invokestatic 80, 3) := by decide +kernel
theorem dX0_copyFrom_17 : decode cX0_copyFrom 17 = .ok (.aload_n 1, 1) := by decide +kernel
theorem dX0_copyFrom_18 : decode cX0_copyFrom 18 = .ok (.getfield 15, 3) := by decide +kernel
theorem dX0_copyFrom_21 : decode cX0_copyFrom 21 = .ok (.iconst 0, 1) := by decide +kernel
theorem dX0_copyFrom_22 : decode cX0_copyFrom 22 = .ok (.aload_n 0, 1) := by decide +kernel
theorem dX0_copyFrom_23 : decode cX0_copyFrom 23 = .ok (.getfield 15, 3) := by decide +kernel
theorem dX0_copyFrom_26 : decode cX0_copyFrom 26 = .ok (.iconst 0, 1) := by decide +kernel
theorem dX0_copyFrom_27 : decode cX0_copyFrom 27 = .ok (.aload_n 1, 1) := by decide +kernel
theorem dX0_copyFrom_28 : decode cX0_copyFrom 28 = .ok (.getfield 61, 3) := by decide +kernel
theorem dX0_copyFrom_31 : decode cX0_copyFrom 31 = .ok (.invokestatic 80, 3) := by decide +kernel
theorem dX0_copyFrom_34 : decode cX0_copyFrom 34 = .ok (.aload_n 1, 1) := by decide +kernel
theorem dX0_copyFrom_35 : decode cX0_copyFrom 35 = .ok (.getfield 18, 3) := by decide +kernel
theorem dX0_copyFrom_38 : decode cX0_copyFrom 38 = .ok (.iconst 0, 1) := by decide +kernel
theorem dX0_copyFrom_39 : decode cX0_copyFrom 39 = .ok (.aload_n 0, 1) := by decide +kernel
theorem dX0_copyFrom_40 : decode cX0_copyFrom 40 = .ok (.getfield 18, 3) := by decide +kernel
theorem dX0_copyFrom_43 : decode cX0_copyFrom 43 = .ok (.iconst 0, 1) := by decide +kernel
theorem dX0_copyFrom_44 : decode cX0_copyFrom 44 = .ok (.aload_n 1, 1) := by decide +kernel
theorem dX0_copyFrom_45 : decode cX0_copyFrom 45 = .ok (.getfield 61, 3) := by decide +kernel
theorem dX0_copyFrom_48 : decode cX0_copyFrom 48 = .ok (.invokestatic 80, 3) := by decide +kernel
theorem dX0_copyFrom_51 : decode cX0_copyFrom 51 = .ok (.aload_n 1, 1) := by decide +kernel
theorem dX0_copyFrom_52 : decode cX0_copyFrom 52 = .ok (.getfield 21, 3) := by decide +kernel
theorem dX0_copyFrom_55 : decode cX0_copyFrom 55 = .ok (.iconst 0, 1) := by decide +kernel
theorem dX0_copyFrom_56 : decode cX0_copyFrom 56 = .ok (.aload_n 0, 1) := by decide +kernel
theorem dX0_copyFrom_57 : decode cX0_copyFrom 57 = .ok (.getfield 21, 3) := by decide +kernel
theorem dX0_copyFrom_60 : decode cX0_copyFrom 60 = .ok (.iconst 0, 1) := by decide +kernel
theorem dX0_copyFrom_61 : decode cX0_copyFrom 61 = .ok (.aload_n 1, 1) := by decide +kernel
theorem dX0_copyFrom_62 : decode cX0_copyFrom 62 = .ok (.getfield 61, 3) := by decide +kernel
theorem dX0_copyFrom_65 : decode cX0_copyFrom 65 = .ok (.invokestatic 80, 3) := by decide +kernel
theorem dX0_copyFrom_68 : decode cX0_copyFrom 68 = .ok (.aload_n 1, 1) := by decide +kernel
theorem dX0_copyFrom_69 : decode cX0_copyFrom 69 = .ok (.getfield 24, 3) := by decide +kernel
theorem dX0_copyFrom_72 : decode cX0_copyFrom 72 = .ok (.iconst 0, 1) := by decide +kernel
theorem dX0_copyFrom_73 : decode cX0_copyFrom 73 = .ok (.aload_n 0, 1) := by decide +kernel
theorem dX0_copyFrom_74 : decode cX0_copyFrom 74 = .ok (.getfield 24, 3) := by decide +kernel
theorem dX0_copyFrom_77 : decode cX0_copyFrom 77 = .ok (.iconst 0, 1) := by decide +kernel
theorem dX0_copyFrom_78 : decode cX0_copyFrom 78 = .ok (.aload_n 1, 1) := by decide +kernel
theorem dX0_copyFrom_79 : decode cX0_copyFrom 79 = .ok (.getfield 61, 3) := by decide +kernel
theorem dX0_copyFrom_82 : decode cX0_copyFrom 82 = .ok (.invokestatic 80, 3) := by decide +kernel
theorem dX0_copyFrom_85 : decode cX0_copyFrom 85 = .ok (.aload_n 1, 1) := by decide +kernel
theorem dX0_copyFrom_86 : decode cX0_copyFrom 86 = .ok (.getfield 27, 3) := by decide +kernel
theorem dX0_copyFrom_89 : decode cX0_copyFrom 89 = .ok (.iconst 0, 1) := by decide +kernel
theorem dX0_copyFrom_90 : decode cX0_copyFrom 90 = .ok (.aload_n 0, 1) := by decide +kernel
theorem dX0_copyFrom_91 : decode cX0_copyFrom 91 = .ok (.getfield 27, 3) := by decide +kernel
theorem dX0_copyFrom_94 : decode cX0_copyFrom 94 = .ok (.iconst 0, 1) := by decide +kernel
theorem dX0_copyFrom_95 : decode cX0_copyFrom 95 = .ok (.aload_n 1, 1) := by decide +kernel
theorem dX0_copyFrom_96 : decode cX0_copyFrom 96 = .ok (.getfield 61, 3) := by decide +kernel
theorem dX0_copyFrom_99 : decode cX0_copyFrom 99 = .ok (.invokestatic 80, 3) := by decide +kernel
theorem dX0_copyFrom_102 : decode cX0_copyFrom 102 = .ok (.aload_n 1, 1) := by decide +kernel
theorem dX0_copyFrom_103 : decode cX0_copyFrom 103 = .ok (.getfield 30, 3) := by decide +kernel
theorem dX0_copyFrom_106 : decode cX0_copyFrom 106 = .ok (.iconst 0, 1) := by decide +kernel
theorem dX0_copyFrom_107 : decode cX0_copyFrom 107 = .ok (.aload_n 0, 1) := by decide +kernel
theorem dX0_copyFrom_108 : decode cX0_copyFrom 108 = .ok (.getfield 30, 3) := by decide +kernel
theorem dX0_copyFrom_111 : decode cX0_copyFrom 111 = .ok (.iconst 0, 1) := by decide +kernel
theorem dX0_copyFrom_112 : decode cX0_copyFrom 112 = .ok (.aload_n 1, 1) := by decide +kernel
theorem dX0_copyFrom_113 : decode cX0_copyFrom 113 = .ok (.getfield 61, 3) := by decide +kernel
theorem dX0_copyFrom_116 : decode cX0_copyFrom 116 = .ok (.invokestatic 80, 3) := by decide +kernel
theorem dX0_copyFrom_119 : decode cX0_copyFrom 119 = .ok (.aload_n 1, 1) := by decide +kernel
theorem dX0_copyFrom_120 : decode cX0_copyFrom 120 = .ok (.getfield 33, 3) := by decide +kernel
theorem dX0_copyFrom_123 : decode cX0_copyFrom 123 = .ok (.iconst 0, 1) := by decide +kernel
theorem dX0_copyFrom_124 : decode cX0_copyFrom 124 = .ok (.aload_n 0, 1) := by decide +kernel
theorem dX0_copyFrom_125 : decode cX0_copyFrom 125 = .ok (.getfield 33, 3) := by decide +kernel
theorem dX0_copyFrom_128 : decode cX0_copyFrom 128 = .ok (.iconst 0, 1) := by decide +kernel
theorem dX0_copyFrom_129 : decode cX0_copyFrom 129 = .ok (.aload_n 1, 1) := by decide +kernel
theorem dX0_copyFrom_130 : decode cX0_copyFrom 130 = .ok (.getfield 61, 3) := by decide +kernel
theorem dX0_copyFrom_133 : decode cX0_copyFrom 133 = .ok (.invokestatic 80, 3) := by decide +kernel
theorem dX0_copyFrom_136 : decode cX0_copyFrom 136 = .ok (.aload_n 1, 1) := by decide +kernel
theorem dX0_copyFrom_137 : decode cX0_copyFrom 137 = .ok (.getfield 36, 3) := by decide +kernel
theorem dX0_copyFrom_140 : decode cX0_copyFrom 140 = .ok (.iconst 0, 1) := by decide +kernel
theorem dX0_copyFrom_141 : decode cX0_copyFrom 141 = .ok (.aload_n 0, 1) := by decide +kernel
theorem dX0_copyFrom_142 : decode cX0_copyFrom 142 = .ok (.getfield 36, 3) := by decide +kernel
theorem dX0_copyFrom_145 : decode cX0_copyFrom 145 = .ok (.iconst 0, 1) := by decide +kernel
theorem dX0_copyFrom_146 : decode cX0_copyFrom 146 = .ok (.aload_n 1, 1) := by decide +kernel
theorem dX0_copyFrom_147 : decode cX0_copyFrom 147 = .ok (.getfield 61, 3) := by decide +kernel
theorem dX0_copyFrom_150 : decode cX0_copyFrom 150 = .ok (.invokestatic 80, 3) := by decide +kernel
theorem dX0_copyFrom_153 : decode cX0_copyFrom 153 = .ok (.aload_n 1, 1) := by decide +kernel
theorem dX0_copyFrom_154 : decode cX0_copyFrom 154 = .ok (.getfield 39, 3) := by decide +kernel
theorem dX0_copyFrom_157 : decode cX0_copyFrom 157 = .ok (.iconst 0, 1) := by decide +kernel
theorem dX0_copyFrom_158 : decode cX0_copyFrom 158 = .ok (.aload_n 0, 1) := by decide +kernel
theorem dX0_copyFrom_159 : decode cX0_copyFrom 159 = .ok (.getfield 39, 3) := by decide +kernel
theorem dX0_copyFrom_162 : decode cX0_copyFrom 162 = .ok (.iconst 0, 1) := by decide +kernel
theorem dX0_copyFrom_163 : decode cX0_copyFrom 163 = .ok (.aload_n 1, 1) := by decide +kernel
theorem dX0_copyFrom_164 : decode cX0_copyFrom 164 = .ok (.getfield 61, 3) := by decide +kernel
theorem dX0_copyFrom_167 : decode cX0_copyFrom 167 = .ok (.invokestatic 80, 3) := by decide +kernel
theorem dX0_copyFrom_170 : decode cX0_copyFrom 170 = .ok (.aload_n 1, 1) := by decide +kernel
theorem dX0_copyFrom_171 : decode cX0_copyFrom 171 = .ok (.getfield 42, 3) := by decide +kernel
theorem dX0_copyFrom_174 : decode cX0_copyFrom 174 = .ok (.iconst 0, 1) := by decide +kernel
theorem dX0_copyFrom_175 : decode cX0_copyFrom 175 = .ok (.aload_n 0, 1) := by decide +kernel
theorem dX0_copyFrom_176 : decode cX0_copyFrom 176 = .ok (.getfield 42, 3) := by decide +kernel
theorem dX0_copyFrom_179 : decode cX0_copyFrom 179 = .ok (.iconst 0, 1) := by decide +kernel
theorem dX0_copyFrom_180 : decode cX0_copyFrom 180 = .ok (.aload_n 1, 1) := by decide +kernel
theorem dX0_copyFrom_181 : decode cX0_copyFrom 181 = .ok (.getfield 61, 3) := by decide +kernel
theorem dX0_copyFrom_184 : decode cX0_copyFrom 184 = .ok (.invokestatic 80, 3) := by decide +kernel
theorem dX0_copyFrom_187 : decode cX0_copyFrom 187 = .ok (.aload_n 1, 1) := by decide +kernel
theorem dX0_copyFrom_188 : decode cX0_copyFrom 188 = .ok (.getfield 45, 3) := by decide +kernel
theorem dX0_copyFrom_191 : decode cX0_copyFrom 191 = .ok (.iconst 0, 1) := by decide +kernel
theorem dX0_copyFrom_192 : decode cX0_copyFrom 192 = .ok (.aload_n 0, 1) := by decide +kernel
theorem dX0_copyFrom_193 : decode cX0_copyFrom 193 = .ok (.getfield 45, 3) := by decide +kernel
theorem dX0_copyFrom_196 : decode cX0_copyFrom 196 = .ok (.iconst 0, 1) := by decide +kernel
theorem dX0_copyFrom_197 : decode cX0_copyFrom 197 = .ok (.aload_n 1, 1) := by decide +kernel
theorem dX0_copyFrom_198 : decode cX0_copyFrom 198 = .ok (.getfield 61, 3) := by decide +kernel
theorem dX0_copyFrom_201 : decode cX0_copyFrom 201 = .ok (.invokestatic 80, 3) := by decide +kernel
theorem dX0_copyFrom_204 : decode cX0_copyFrom 204 = .ok (.aload_n 1, 1) := by decide +kernel
theorem dX0_copyFrom_205 : decode cX0_copyFrom 205 = .ok (.getfield 48, 3) := by decide +kernel
theorem dX0_copyFrom_208 : decode cX0_copyFrom 208 = .ok (.iconst 0, 1) := by decide +kernel
theorem dX0_copyFrom_209 : decode cX0_copyFrom 209 = .ok (.aload_n 0, 1) := by decide +kernel
theorem dX0_copyFrom_210 : decode cX0_copyFrom 210 = .ok (.getfield 48, 3) := by decide +kernel
theorem dX0_copyFrom_213 : decode cX0_copyFrom 213 = .ok (.iconst 0, 1) := by decide +kernel
theorem dX0_copyFrom_214 : decode cX0_copyFrom 214 = .ok (.aload_n 1, 1) := by decide +kernel
theorem dX0_copyFrom_215 : decode cX0_copyFrom 215 = .ok (.getfield 61, 3) := by decide +kernel
theorem dX0_copyFrom_218 : decode cX0_copyFrom 218 = .ok (.invokestatic 80, 3) := by decide +kernel
theorem dX0_copyFrom_221 : decode cX0_copyFrom 221 = .ok (.aload_n 1, 1) := by decide +kernel
theorem dX0_copyFrom_222 : decode cX0_copyFrom 222 = .ok (.getfield 51, 3) := by decide +kernel
theorem dX0_copyFrom_225 : decode cX0_copyFrom 225 = .ok (.iconst 0, 1) := by decide +kernel
theorem dX0_copyFrom_226 : decode cX0_copyFrom 226 = .ok (.aload_n 0, 1) := by decide +kernel
theorem dX0_copyFrom_227 : decode cX0_copyFrom 227 = .ok (.getfield 51, 3) := by decide +kernel
theorem dX0_copyFrom_230 : decode cX0_copyFrom 230 = .ok (.iconst 0, 1) := by decide +kernel
theorem dX0_copyFrom_231 : decode cX0_copyFrom 231 = .ok (.aload_n 1, 1) := by decide +kernel
theorem dX0_copyFrom_232 : decode cX0_copyFrom 232 = .ok (.getfield 61, 3) := by decide +kernel
theorem dX0_copyFrom_235 : decode cX0_copyFrom 235 = .ok (.invokestatic 80, 3) := by decide +kernel
theorem dX0_copyFrom_238 : decode cX0_copyFrom 238 = .ok (.aload_n 1, 1) := by decide +kernel
theorem dX0_copyFrom_239 : decode cX0_copyFrom 239 = .ok (.getfield 55, 3) := by decide +kernel
theorem dX0_copyFrom_242 : decode cX0_copyFrom 242 = .ok (.iconst 0, 1) := by decide +kernel
theorem dX0_copyFrom_243 : decode cX0_copyFrom 243 = .ok (.aload_n 0, 1) := by decide +kernel
theorem dX0_copyFrom_244 : decode cX0_copyFrom 244 = .ok (.getfield 55, 3) := by decide +kernel
theorem dX0_copyFrom_247 : decode cX0_copyFrom 247 = .ok (.iconst 0, 1) := by decide +kernel
theorem dX0_copyFrom_248 : decode cX0_copyFrom 248 = .ok (.sipush 192, 3) := by decide +kernel
theorem dX0_copyFrom_251 : decode cX0_copyFrom 251 = .ok (.invokestatic 80, 3) := by decide +kernel
theorem dX0_copyFrom_254 : decode cX0_copyFrom 254 = .ok (.aload_n 0, 1) := by decide +kernel
theorem dX0_copyFrom_255 : decode cX0_copyFrom 255 = .ok (.aload_n 1, 1) := by decide +kernel
theorem dX0_copyFrom_256 : decode cX0_copyFrom 256 = .ok (.getfield 61, 3) := by decide +kernel
theorem dX0_copyFrom_259 : decode cX0_copyFrom 259 = .ok (.putfield 61, 3) := by decide +kernel
theorem dX0_copyFrom_262 : decode cX0_copyFrom 262 = .ok (.aload_n 0, 1) := by decide +kernel
theorem dX0_copyFrom_263 : decode cX0_copyFrom 263 = .ok (.aload_n 1, 1) := by decide +kernel
theorem dX0_copyFrom_264 : decode cX0_copyFrom 264 = .ok (.getfield 65, 3) := by decide +kernel
theorem dX0_copyFrom_267 : decode cX0_copyFrom 267 = .ok (.putfield 65, 3) := by decide +kernel
theorem dX0_copyFrom_270 : decode cX0_copyFrom 270 = .ok (.aload_n 0, 1) := by decide +kernel
theorem dX0_copyFrom_271 : decode cX0_copyFrom 271 = .ok (.aload_n 1, 1) := by decide +kernel
theorem dX0_copyFrom_272 : decode cX0_copyFrom 272 = .ok (.getfield 68, 3) := by decide +kernel
theorem dX0_copyFrom_275 : decode cX0_copyFrom 275 = .ok (.putfield 68, 3) := by decide +kernel
theorem dX0_copyFrom_278 : decode cX0_copyFrom 278 = .ok (.aload_n 0, 1) := by decide +kernel
theorem dX0_copyFrom_279 : decode cX0_copyFrom 279 = .ok (.aload_n 1, 1) := by decide +kernel
theorem dX0_copyFrom_280 : decode cX0_copyFrom 280 = .ok (.getfield 71, 3) := by decide +kernel
theorem dX0_copyFrom_283 : decode cX0_copyFrom 283 = .ok (.putfield 71, 3) := by decide +kernel
theorem dX0_copyFrom_286 : decode cX0_copyFrom 286 = .ok (.return_, 1) := by decide +kernel
def De_copyFrom (k : Nat) (q1 : Nat) (d : Mem) : Option (Unit × Mem) :=
  if cpok (0 : Int32) (0 : Int32) (d q1 17 16) 192 192 then
  bnd (wrAM d k 18 (va_cpy (d q1 18) (d k 18) (ix (0 : Int32)) (ix (0 : Int32)) (ix (d q1 17 16)))) fun d1 =>
  if cpok (0 : Int32) (0 : Int32) (d1 q1 17 16) 192 192 then
  bnd (wrAM d1 k 19 (va_cpy (d1 q1 19) (d1 k 19) (ix (0 : Int32)) (ix (0 : Int32)) (ix (d1 q1 17 16)))) fun d2 =>
  if cpok (0 : Int32) (0 : Int32) (d2 q1 17 16) 192 192 then
  bnd (wrAM d2 k 20 (va_cpy (d2 q1 20) (d2 k 20) (ix (0 : Int32)) (ix (0 : Int32)) (ix (d2 q1 17 16)))) fun d3 =>
  if cpok (0 : Int32) (0 : Int32) (d3 q1 17 16) 192 192 then
  bnd (wrAM d3 k 21 (va_cpy (d3 q1 21) (d3 k 21) (ix (0 : Int32)) (ix (0 : Int32)) (ix (d3 q1 17 16)))) fun d4 =>
  if cpok (0 : Int32) (0 : Int32) (d4 q1 17 16) 192 192 then
  bnd (wrAM d4 k 22 (va_cpy (d4 q1 22) (d4 k 22) (ix (0 : Int32)) (ix (0 : Int32)) (ix (d4 q1 17 16)))) fun d5 =>
  if cpok (0 : Int32) (0 : Int32) (d5 q1 17 16) 192 192 then
  bnd (wrAM d5 k 23 (va_cpy (d5 q1 23) (d5 k 23) (ix (0 : Int32)) (ix (0 : Int32)) (ix (d5 q1 17 16)))) fun d6 =>
  if cpok (0 : Int32) (0 : Int32) (d6 q1 17 16) 192 192 then
  bnd (wrAM d6 k 24 (va_cpy (d6 q1 24) (d6 k 24) (ix (0 : Int32)) (ix (0 : Int32)) (ix (d6 q1 17 16)))) fun d7 =>
  if cpok (0 : Int32) (0 : Int32) (d7 q1 17 16) 192 192 then
  bnd (wrAM d7 k 25 (va_cpy (d7 q1 25) (d7 k 25) (ix (0 : Int32)) (ix (0 : Int32)) (ix (d7 q1 17 16)))) fun d8 =>
  if cpok (0 : Int32) (0 : Int32) (d8 q1 17 16) 192 192 then
  bnd (wrAM d8 k 26 (va_cpy (d8 q1 26) (d8 k 26) (ix (0 : Int32)) (ix (0 : Int32)) (ix (d8 q1 17 16)))) fun d9 =>
  if cpok (0 : Int32) (0 : Int32) (d9 q1 17 16) 192 192 then
  bnd (wrAM d9 k 27 (va_cpy (d9 q1 27) (d9 k 27) (ix (0 : Int32)) (ix (0 : Int32)) (ix (d9 q1 17 16)))) fun d10 =>
  if cpok (0 : Int32) (0 : Int32) (d10 q1 17 16) 192 192 then
  bnd (wrAM d10 k 28 (va_cpy (d10 q1 28) (d10 k 28) (ix (0 : Int32)) (ix (0 : Int32)) (ix (d10 q1 17 16)))) fun d11 =>
  if cpok (0 : Int32) (0 : Int32) (d11 q1 17 16) 192 192 then
  bnd (wrAM d11 k 29 (va_cpy (d11 q1 29) (d11 k 29) (ix (0 : Int32)) (ix (0 : Int32)) (ix (d11 q1 17 16)))) fun d12 =>
  if cpok (0 : Int32) (0 : Int32) (d12 q1 17 16) 192 192 then
  bnd (wrAM d12 k 30 (va_cpy (d12 q1 30) (d12 k 30) (ix (0 : Int32)) (ix (0 : Int32)) (ix (d12 q1 17 16)))) fun d13 =>
  if cpok (0 : Int32) (0 : Int32) (d13 q1 17 16) 192 192 then
  bnd (wrAM d13 k 31 (va_cpy (d13 q1 31) (d13 k 31) (ix (0 : Int32)) (ix (0 : Int32)) (ix (d13 q1 17 16)))) fun d14 =>
  if cpok (0 : Int32) (0 : Int32) (192 : Int32) 192 192 then
  bnd (wrAM d14 k 32 (va_cpy (d14 q1 32) (d14 k 32) (ix (0 : Int32)) (ix (0 : Int32)) (ix (192 : Int32)))) fun d15 =>
  bnd (wrM d15 k 17 16 (d15 q1 17 16)) fun d16 =>
  bnd (wrM d16 k 17 17 (d16 q1 17 17)) fun d17 =>
  bnd (wrM d17 k 17 18 (d17 q1 17 18)) fun d18 =>
  bnd (wrM d18 k 17 19 (d18 q1 17 19)) fun d19 =>
  some ((), d19)
  else none
  else none
  else none
  else none
  else none
  else none
  else none
  else none
  else none
  else none
  else none
  else none
  else none
  else none
  else none
theorem y_X0_copyFrom : YV yX0_copyFrom cX0_copyFrom 2 none 1 := ⟨q621, q622, q623, q147, by decide +kernel, by decide +kernel, by decide +kernel, by decide +kernel⟩
theorem r_De_copyFrom {C : Cxt} {G : Geo} {k : Nat} {q1 : Nat} (hC : Cx C cX0_copyFrom 2 "FrameHeirs$Deeds" none rm_X0_copyFrom G) (hcl : GCl G) (hX : LXx G) (hT : LSt G) (hk : LWd G k) (gk : 2 ≤ k) (hq1 : LWd G q1) (gq1 : 2 ≤ q1) (d : Mem) : Rz C 2 G gm (poM avV gm) 0 [(0, .inr (k, 17)), (1, .inr (q1, 17))] [] d (De_copyFrom k q1 d) := by
  unfold De_copyFrom
  refine z_aload_n (pc := 0) hC 1 rfl 1 rfl dX0_copyFrom_0 ?_
  refine z_getc (pc := 1) hC (hq1 17 rfl) f_17_0 q293 dX0_copyFrom_1 ?_
  refine z_iconst (pc := 4) hC (0 : Int32) rfl dX0_copyFrom_4 ?_
  refine z_aload_n (pc := 5) hC 0 rfl 0 rfl dX0_copyFrom_5 ?_
  refine z_getc (pc := 6) hC (hk 17 rfl) f_17_0 q293 dX0_copyFrom_6 ?_
  refine z_iconst (pc := 9) hC (0 : Int32) rfl dX0_copyFrom_9 ?_
  refine z_aload_n (pc := 10) hC 1 rfl 1 rfl dX0_copyFrom_10 ?_
  refine zg_geti (pc := 11) hC (hq1 17 rfl) f_17_16 q327 dX0_copyFrom_11 ?_
  refine zg_cpi (pc := 14) hC (hq1 18 rfl) (hk 18 rfl) (by decide) rfl rfl q624 q626 q625 q151 (Nat.le_of_ble_eq_true rfl) (by decide +kernel) dX0_copyFrom_14 (fun d1 => ?_)
  refine z_aload_n (pc := 17) hC 1 rfl 1 rfl dX0_copyFrom_17 ?_
  refine z_getc (pc := 18) hC (hq1 17 rfl) f_17_1 q295 dX0_copyFrom_18 ?_
  refine z_iconst (pc := 21) hC (0 : Int32) rfl dX0_copyFrom_21 ?_
  refine z_aload_n (pc := 22) hC 0 rfl 0 rfl dX0_copyFrom_22 ?_
  refine z_getc (pc := 23) hC (hk 17 rfl) f_17_1 q295 dX0_copyFrom_23 ?_
  refine z_iconst (pc := 26) hC (0 : Int32) rfl dX0_copyFrom_26 ?_
  refine z_aload_n (pc := 27) hC 1 rfl 1 rfl dX0_copyFrom_27 ?_
  refine zg_geti (pc := 28) hC (hq1 17 rfl) f_17_16 q327 dX0_copyFrom_28 ?_
  refine zg_cpi (pc := 31) hC (hq1 19 rfl) (hk 19 rfl) (by decide) rfl rfl q624 q626 q625 q151 (Nat.le_of_ble_eq_true rfl) (by decide +kernel) dX0_copyFrom_31 (fun d2 => ?_)
  refine z_aload_n (pc := 34) hC 1 rfl 1 rfl dX0_copyFrom_34 ?_
  refine z_getc (pc := 35) hC (hq1 17 rfl) f_17_2 q299 dX0_copyFrom_35 ?_
  refine z_iconst (pc := 38) hC (0 : Int32) rfl dX0_copyFrom_38 ?_
  refine z_aload_n (pc := 39) hC 0 rfl 0 rfl dX0_copyFrom_39 ?_
  refine z_getc (pc := 40) hC (hk 17 rfl) f_17_2 q299 dX0_copyFrom_40 ?_
  refine z_iconst (pc := 43) hC (0 : Int32) rfl dX0_copyFrom_43 ?_
  refine z_aload_n (pc := 44) hC 1 rfl 1 rfl dX0_copyFrom_44 ?_
  refine zg_geti (pc := 45) hC (hq1 17 rfl) f_17_16 q327 dX0_copyFrom_45 ?_
  refine zg_cpi (pc := 48) hC (hq1 20 rfl) (hk 20 rfl) (by decide) rfl rfl q624 q626 q625 q151 (Nat.le_of_ble_eq_true rfl) (by decide +kernel) dX0_copyFrom_48 (fun d3 => ?_)
  refine z_aload_n (pc := 51) hC 1 rfl 1 rfl dX0_copyFrom_51 ?_
  refine z_getc (pc := 52) hC (hq1 17 rfl) f_17_3 q302 dX0_copyFrom_52 ?_
  refine z_iconst (pc := 55) hC (0 : Int32) rfl dX0_copyFrom_55 ?_
  refine z_aload_n (pc := 56) hC 0 rfl 0 rfl dX0_copyFrom_56 ?_
  refine z_getc (pc := 57) hC (hk 17 rfl) f_17_3 q302 dX0_copyFrom_57 ?_
  refine z_iconst (pc := 60) hC (0 : Int32) rfl dX0_copyFrom_60 ?_
  refine z_aload_n (pc := 61) hC 1 rfl 1 rfl dX0_copyFrom_61 ?_
  refine zg_geti (pc := 62) hC (hq1 17 rfl) f_17_16 q327 dX0_copyFrom_62 ?_
  refine zg_cpi (pc := 65) hC (hq1 21 rfl) (hk 21 rfl) (by decide) rfl rfl q624 q626 q625 q151 (Nat.le_of_ble_eq_true rfl) (by decide +kernel) dX0_copyFrom_65 (fun d4 => ?_)
  refine z_aload_n (pc := 68) hC 1 rfl 1 rfl dX0_copyFrom_68 ?_
  refine z_getc (pc := 69) hC (hq1 17 rfl) f_17_4 q305 dX0_copyFrom_69 ?_
  refine z_iconst (pc := 72) hC (0 : Int32) rfl dX0_copyFrom_72 ?_
  refine z_aload_n (pc := 73) hC 0 rfl 0 rfl dX0_copyFrom_73 ?_
  refine z_getc (pc := 74) hC (hk 17 rfl) f_17_4 q305 dX0_copyFrom_74 ?_
  refine z_iconst (pc := 77) hC (0 : Int32) rfl dX0_copyFrom_77 ?_
  refine z_aload_n (pc := 78) hC 1 rfl 1 rfl dX0_copyFrom_78 ?_
  refine zg_geti (pc := 79) hC (hq1 17 rfl) f_17_16 q327 dX0_copyFrom_79 ?_
  refine zg_cpi (pc := 82) hC (hq1 22 rfl) (hk 22 rfl) (by decide) rfl rfl q624 q626 q625 q151 (Nat.le_of_ble_eq_true rfl) (by decide +kernel) dX0_copyFrom_82 (fun d5 => ?_)
  refine z_aload_n (pc := 85) hC 1 rfl 1 rfl dX0_copyFrom_85 ?_
  refine z_getc (pc := 86) hC (hq1 17 rfl) f_17_5 q308 dX0_copyFrom_86 ?_
  refine z_iconst (pc := 89) hC (0 : Int32) rfl dX0_copyFrom_89 ?_
  refine z_aload_n (pc := 90) hC 0 rfl 0 rfl dX0_copyFrom_90 ?_
  refine z_getc (pc := 91) hC (hk 17 rfl) f_17_5 q308 dX0_copyFrom_91 ?_
  refine z_iconst (pc := 94) hC (0 : Int32) rfl dX0_copyFrom_94 ?_
  refine z_aload_n (pc := 95) hC 1 rfl 1 rfl dX0_copyFrom_95 ?_
  refine zg_geti (pc := 96) hC (hq1 17 rfl) f_17_16 q327 dX0_copyFrom_96 ?_
  refine zg_cpi (pc := 99) hC (hq1 23 rfl) (hk 23 rfl) (by decide) rfl rfl q624 q626 q625 q151 (Nat.le_of_ble_eq_true rfl) (by decide +kernel) dX0_copyFrom_99 (fun d6 => ?_)
  refine z_aload_n (pc := 102) hC 1 rfl 1 rfl dX0_copyFrom_102 ?_
  refine z_getc (pc := 103) hC (hq1 17 rfl) f_17_6 q311 dX0_copyFrom_103 ?_
  refine z_iconst (pc := 106) hC (0 : Int32) rfl dX0_copyFrom_106 ?_
  refine z_aload_n (pc := 107) hC 0 rfl 0 rfl dX0_copyFrom_107 ?_
  refine z_getc (pc := 108) hC (hk 17 rfl) f_17_6 q311 dX0_copyFrom_108 ?_
  refine z_iconst (pc := 111) hC (0 : Int32) rfl dX0_copyFrom_111 ?_
  refine z_aload_n (pc := 112) hC 1 rfl 1 rfl dX0_copyFrom_112 ?_
  refine zg_geti (pc := 113) hC (hq1 17 rfl) f_17_16 q327 dX0_copyFrom_113 ?_
  refine zg_cpi (pc := 116) hC (hq1 24 rfl) (hk 24 rfl) (by decide) rfl rfl q624 q626 q625 q151 (Nat.le_of_ble_eq_true rfl) (by decide +kernel) dX0_copyFrom_116 (fun d7 => ?_)
  refine z_aload_n (pc := 119) hC 1 rfl 1 rfl dX0_copyFrom_119 ?_
  refine z_getc (pc := 120) hC (hq1 17 rfl) f_17_7 q313 dX0_copyFrom_120 ?_
  refine z_iconst (pc := 123) hC (0 : Int32) rfl dX0_copyFrom_123 ?_
  refine z_aload_n (pc := 124) hC 0 rfl 0 rfl dX0_copyFrom_124 ?_
  refine z_getc (pc := 125) hC (hk 17 rfl) f_17_7 q313 dX0_copyFrom_125 ?_
  refine z_iconst (pc := 128) hC (0 : Int32) rfl dX0_copyFrom_128 ?_
  refine z_aload_n (pc := 129) hC 1 rfl 1 rfl dX0_copyFrom_129 ?_
  refine zg_geti (pc := 130) hC (hq1 17 rfl) f_17_16 q327 dX0_copyFrom_130 ?_
  refine zg_cpi (pc := 133) hC (hq1 25 rfl) (hk 25 rfl) (by decide) rfl rfl q624 q626 q625 q151 (Nat.le_of_ble_eq_true rfl) (by decide +kernel) dX0_copyFrom_133 (fun d8 => ?_)
  refine z_aload_n (pc := 136) hC 1 rfl 1 rfl dX0_copyFrom_136 ?_
  refine z_getc (pc := 137) hC (hq1 17 rfl) f_17_8 q314 dX0_copyFrom_137 ?_
  refine z_iconst (pc := 140) hC (0 : Int32) rfl dX0_copyFrom_140 ?_
  refine z_aload_n (pc := 141) hC 0 rfl 0 rfl dX0_copyFrom_141 ?_
  refine z_getc (pc := 142) hC (hk 17 rfl) f_17_8 q314 dX0_copyFrom_142 ?_
  refine z_iconst (pc := 145) hC (0 : Int32) rfl dX0_copyFrom_145 ?_
  refine z_aload_n (pc := 146) hC 1 rfl 1 rfl dX0_copyFrom_146 ?_
  refine zg_geti (pc := 147) hC (hq1 17 rfl) f_17_16 q327 dX0_copyFrom_147 ?_
  refine zg_cpi (pc := 150) hC (hq1 26 rfl) (hk 26 rfl) (by decide) rfl rfl q624 q626 q625 q151 (Nat.le_of_ble_eq_true rfl) (by decide +kernel) dX0_copyFrom_150 (fun d9 => ?_)
  refine z_aload_n (pc := 153) hC 1 rfl 1 rfl dX0_copyFrom_153 ?_
  refine z_getc (pc := 154) hC (hq1 17 rfl) f_17_9 q316 dX0_copyFrom_154 ?_
  refine z_iconst (pc := 157) hC (0 : Int32) rfl dX0_copyFrom_157 ?_
  refine z_aload_n (pc := 158) hC 0 rfl 0 rfl dX0_copyFrom_158 ?_
  refine z_getc (pc := 159) hC (hk 17 rfl) f_17_9 q316 dX0_copyFrom_159 ?_
  refine z_iconst (pc := 162) hC (0 : Int32) rfl dX0_copyFrom_162 ?_
  refine z_aload_n (pc := 163) hC 1 rfl 1 rfl dX0_copyFrom_163 ?_
  refine zg_geti (pc := 164) hC (hq1 17 rfl) f_17_16 q327 dX0_copyFrom_164 ?_
  refine zg_cpi (pc := 167) hC (hq1 27 rfl) (hk 27 rfl) (by decide) rfl rfl q624 q626 q625 q151 (Nat.le_of_ble_eq_true rfl) (by decide +kernel) dX0_copyFrom_167 (fun d10 => ?_)
  refine z_aload_n (pc := 170) hC 1 rfl 1 rfl dX0_copyFrom_170 ?_
  refine z_getc (pc := 171) hC (hq1 17 rfl) f_17_10 q317 dX0_copyFrom_171 ?_
  refine z_iconst (pc := 174) hC (0 : Int32) rfl dX0_copyFrom_174 ?_
  refine z_aload_n (pc := 175) hC 0 rfl 0 rfl dX0_copyFrom_175 ?_
  refine z_getc (pc := 176) hC (hk 17 rfl) f_17_10 q317 dX0_copyFrom_176 ?_
  refine z_iconst (pc := 179) hC (0 : Int32) rfl dX0_copyFrom_179 ?_
  refine z_aload_n (pc := 180) hC 1 rfl 1 rfl dX0_copyFrom_180 ?_
  refine zg_geti (pc := 181) hC (hq1 17 rfl) f_17_16 q327 dX0_copyFrom_181 ?_
  refine zg_cpi (pc := 184) hC (hq1 28 rfl) (hk 28 rfl) (by decide) rfl rfl q624 q626 q625 q151 (Nat.le_of_ble_eq_true rfl) (by decide +kernel) dX0_copyFrom_184 (fun d11 => ?_)
  refine z_aload_n (pc := 187) hC 1 rfl 1 rfl dX0_copyFrom_187 ?_
  refine z_getc (pc := 188) hC (hq1 17 rfl) f_17_11 q318 dX0_copyFrom_188 ?_
  refine z_iconst (pc := 191) hC (0 : Int32) rfl dX0_copyFrom_191 ?_
  refine z_aload_n (pc := 192) hC 0 rfl 0 rfl dX0_copyFrom_192 ?_
  refine z_getc (pc := 193) hC (hk 17 rfl) f_17_11 q318 dX0_copyFrom_193 ?_
  refine z_iconst (pc := 196) hC (0 : Int32) rfl dX0_copyFrom_196 ?_
  refine z_aload_n (pc := 197) hC 1 rfl 1 rfl dX0_copyFrom_197 ?_
  refine zg_geti (pc := 198) hC (hq1 17 rfl) f_17_16 q327 dX0_copyFrom_198 ?_
  refine zg_cpi (pc := 201) hC (hq1 29 rfl) (hk 29 rfl) (by decide) rfl rfl q624 q626 q625 q151 (Nat.le_of_ble_eq_true rfl) (by decide +kernel) dX0_copyFrom_201 (fun d12 => ?_)
  refine z_aload_n (pc := 204) hC 1 rfl 1 rfl dX0_copyFrom_204 ?_
  refine z_getc (pc := 205) hC (hq1 17 rfl) f_17_12 q320 dX0_copyFrom_205 ?_
  refine z_iconst (pc := 208) hC (0 : Int32) rfl dX0_copyFrom_208 ?_
  refine z_aload_n (pc := 209) hC 0 rfl 0 rfl dX0_copyFrom_209 ?_
  refine z_getc (pc := 210) hC (hk 17 rfl) f_17_12 q320 dX0_copyFrom_210 ?_
  refine z_iconst (pc := 213) hC (0 : Int32) rfl dX0_copyFrom_213 ?_
  refine z_aload_n (pc := 214) hC 1 rfl 1 rfl dX0_copyFrom_214 ?_
  refine zg_geti (pc := 215) hC (hq1 17 rfl) f_17_16 q327 dX0_copyFrom_215 ?_
  refine zg_cpi (pc := 218) hC (hq1 30 rfl) (hk 30 rfl) (by decide) rfl rfl q624 q626 q625 q151 (Nat.le_of_ble_eq_true rfl) (by decide +kernel) dX0_copyFrom_218 (fun d13 => ?_)
  refine z_aload_n (pc := 221) hC 1 rfl 1 rfl dX0_copyFrom_221 ?_
  refine z_getc (pc := 222) hC (hq1 17 rfl) f_17_13 q321 dX0_copyFrom_222 ?_
  refine z_iconst (pc := 225) hC (0 : Int32) rfl dX0_copyFrom_225 ?_
  refine z_aload_n (pc := 226) hC 0 rfl 0 rfl dX0_copyFrom_226 ?_
  refine z_getc (pc := 227) hC (hk 17 rfl) f_17_13 q321 dX0_copyFrom_227 ?_
  refine z_iconst (pc := 230) hC (0 : Int32) rfl dX0_copyFrom_230 ?_
  refine z_aload_n (pc := 231) hC 1 rfl 1 rfl dX0_copyFrom_231 ?_
  refine zg_geti (pc := 232) hC (hq1 17 rfl) f_17_16 q327 dX0_copyFrom_232 ?_
  refine zg_cpf (pc := 235) hC (hq1 31 rfl) (hk 31 rfl) (by decide) rfl rfl q624 q626 q625 q151 (Nat.le_of_ble_eq_true rfl) (by decide +kernel) dX0_copyFrom_235 (fun d14 => ?_)
  refine z_aload_n (pc := 238) hC 1 rfl 1 rfl dX0_copyFrom_238 ?_
  refine z_getc (pc := 239) hC (hq1 17 rfl) f_17_14 q324 dX0_copyFrom_239 ?_
  refine z_iconst (pc := 242) hC (0 : Int32) rfl dX0_copyFrom_242 ?_
  refine z_aload_n (pc := 243) hC 0 rfl 0 rfl dX0_copyFrom_243 ?_
  refine z_getc (pc := 244) hC (hk 17 rfl) f_17_14 q324 dX0_copyFrom_244 ?_
  refine z_iconst (pc := 247) hC (0 : Int32) rfl dX0_copyFrom_247 ?_
  refine z_sipush (pc := 248) hC (192 : Int32) rfl dX0_copyFrom_248 ?_
  refine zg_cpi (pc := 251) hC (hq1 32 rfl) (hk 32 rfl) (by decide) rfl rfl q624 q626 q625 q151 (Nat.le_of_ble_eq_true rfl) (by decide +kernel) dX0_copyFrom_251 (fun d15 => ?_)
  refine z_aload_n (pc := 254) hC 0 rfl 0 rfl dX0_copyFrom_254 ?_
  refine z_aload_n (pc := 255) hC 1 rfl 1 rfl dX0_copyFrom_255 ?_
  refine zg_geti (pc := 256) hC (hq1 17 rfl) f_17_16 q327 dX0_copyFrom_256 ?_
  refine zg_puti (pc := 259) hC (hk 17 rfl) f_17_16 q327 dX0_copyFrom_259 (fun d16 => ?_)
  refine z_aload_n (pc := 262) hC 0 rfl 0 rfl dX0_copyFrom_262 ?_
  refine z_aload_n (pc := 263) hC 1 rfl 1 rfl dX0_copyFrom_263 ?_
  refine zg_geti (pc := 264) hC (hq1 17 rfl) f_17_17 q329 dX0_copyFrom_264 ?_
  refine zg_puti (pc := 267) hC (hk 17 rfl) f_17_17 q329 dX0_copyFrom_267 (fun d17 => ?_)
  refine z_aload_n (pc := 270) hC 0 rfl 0 rfl dX0_copyFrom_270 ?_
  refine z_aload_n (pc := 271) hC 1 rfl 1 rfl dX0_copyFrom_271 ?_
  refine zg_geti (pc := 272) hC (hq1 17 rfl) f_17_18 q331 dX0_copyFrom_272 ?_
  refine zg_puti (pc := 275) hC (hk 17 rfl) f_17_18 q331 dX0_copyFrom_275 (fun d18 => ?_)
  refine z_aload_n (pc := 278) hC 0 rfl 0 rfl dX0_copyFrom_278 ?_
  refine z_aload_n (pc := 279) hC 1 rfl 1 rfl dX0_copyFrom_279 ?_
  refine zg_geti (pc := 280) hC (hq1 17 rfl) f_17_19 q332 dX0_copyFrom_280 ?_
  refine zg_puti (pc := 283) hC (hk 17 rfl) f_17_19 q332 dX0_copyFrom_283 (fun d19 => ?_)
  exact z_vret (pc := 286) hC rfl dX0_copyFrom_286
theorem c_X0_copyFrom {G : Geo} {k : Nat} {q1 : Nat} (hG : GOk G) (hcl : GCl G) (hX : LXx G) (hT : LSt G) (hk : LWd G k) (gk : 2 ≤ k) (hq1 : LWd G q1) (gq1 : 2 ≤ q1) {d : Mem} (l : Launch) (r : Unit) (d1 : Mem) (h : De_copyFrom k q1 d = some (r, d1)) : Mt l yX0_copyFrom cX0_copyFrom 2 none rm_X0_copyFrom G [.inr (k, 17), .inr (q1, 17)] (gm d) (avV r) (gm d1) :=
  mt_of (mem := gm) (po := poM avV gm) (x0 := d) (t := (r, d1)) rfl hG [.inr (k, 17), .inr (q1, 17)] (Nat.le_of_ble_eq_true rfl) rfl (fun C hC => r_De_copyFrom hC hcl hX hT hk gk hq1 gq1 d) h
-- FrameHeirs$Reader.begin(ILFrameHeirs$Script;)V
abbrev rm_X2_begin : Room := { frames := 1, cells := 0, slots := 0, locals := 21 }
theorem dX2_begin_0 : decode cX2_begin 0 = .ok (.aload_n 0, 1) := by decide +kernel
theorem dX2_begin_1 : decode cX2_begin 1 = .ok (.iload_n 1, 1) := by decide +kernel
theorem dX2_begin_2 : decode cX2_begin 2 = .ok (.aload_n 0, 1) := by decide +kernel
theorem dX2_begin_3 : decode cX2_begin 3 = .ok (.getfield 39, 3) := by decide +kernel
theorem dX2_begin_6 : decode cX2_begin 6 = .ok (.arraylength, 1) := by decide +kernel
theorem dX2_begin_7 : decode cX2_begin 7 = .ok (.invokestatic 47, 3) := by decide +kernel
theorem dX2_begin_10 : decode cX2_begin 10 = .ok (.putfield 18, 3) := by decide +kernel
theorem dX2_begin_13 : decode cX2_begin 13 = .ok (.aload_n 0, 1) := by decide +kernel
theorem dX2_begin_14 : decode cX2_begin 14 = .ok (.iconst 0, 1) := by decide +kernel
theorem dX2_begin_15 : decode cX2_begin 15 = .ok (.putfield 21, 3) := by decide +kernel
theorem dX2_begin_18 : decode cX2_begin 18 = .ok (.aload_n 0, 1) := by decide +kernel
theorem dX2_begin_19 : decode cX2_begin 19 = .ok (.aload_n 2, 1) := by decide +kernel
theorem dX2_begin_20 : decode cX2_begin 20 = .ok (.putfield 43, 3) := by decide +kernel
theorem dX2_begin_23 : decode cX2_begin 23 = .ok (.aload_n 0, 1) := by decide +kernel
theorem dX2_begin_24 : decode cX2_begin 24 = .ok (.getfield 43, 3) := by decide +kernel
theorem dX2_begin_27 : decode cX2_begin 27 = .ok (.invokevirtual 53, 3) := by decide +kernel
theorem dX2_begin_30 : decode cX2_begin 30 = .ok (.aload_n 0, 1) := by decide +kernel
theorem dX2_begin_31 : decode cX2_begin 31 = .ok (.iconst 0, 1) := by decide +kernel
theorem dX2_begin_32 : decode cX2_begin 32 = .ok (.putfield 33, 3) := by decide +kernel
theorem dX2_begin_35 : decode cX2_begin 35 = .ok (.aload_n 0, 1) := by decide +kernel
theorem dX2_begin_36 : decode cX2_begin 36 = .ok (.iconst 0, 1) := by decide +kernel
theorem dX2_begin_37 : decode cX2_begin 37 = .ok (.putfield 36, 3) := by decide +kernel
theorem dX2_begin_40 : decode cX2_begin 40 = .ok (.aload_n 0, 1) := by decide +kernel
theorem dX2_begin_41 : decode cX2_begin 41 = .ok (.iconst 0, 1) := by decide +kernel
theorem dX2_begin_42 : decode cX2_begin 42 = .ok (.putfield 9, 3) := by decide +kernel
theorem dX2_begin_45 : decode cX2_begin 45 = .ok (.aload_n 0, 1) := by decide +kernel
theorem dX2_begin_46 : decode cX2_begin 46 = .ok (.iconst (-1), 1) := by decide +kernel
theorem dX2_begin_47 : decode cX2_begin 47 = .ok (.putfield 15, 3) := by decide +kernel
theorem dX2_begin_50 : decode cX2_begin 50 = .ok (.return_, 1) := by decide +kernel
def Re_begin (q2 : Nat) (d : Mem) (a1 : Int32) : Option (Unit × Mem) :=
  bnd (wrM d 0 2 3 (if (700 : Int32) < a1 then (700 : Int32) else a1)) fun d1 =>
  bnd (wrM d1 0 2 4 (0 : Int32)) fun d2 =>
  bnd (wrM d2 0 2 10 (nI q2)) fun d3 =>
  gref (d3 0 2 10) fun u4 =>
  bd (lft d3 u4 (Sc_clear (d3 u4))) fun r5 d6 =>
  bnd (wrM d6 0 2 8 (0 : Int32)) fun d7 =>
  bnd (wrM d7 0 2 9 (0 : Int32)) fun d8 =>
  bnd (wrM d8 0 2 0 (0 : Int32)) fun d9 =>
  bnd (wrM d9 0 2 1 (-1 : Int32)) fun d10 =>
  some ((), d10)
theorem y_X2_begin : YV yX2_begin cX2_begin 3 none 2 := ⟨q475, q476, q477, q145, by decide +kernel, by decide +kernel, by decide +kernel, by decide +kernel⟩
theorem r_Re_begin {C : Cxt} {G : Geo} {q2 : Nat} (hC : Cx C cX2_begin 3 "FrameHeirs$Reader" none rm_X2_begin G) (hcl : GCl G) (hX : LXx G) (hT : LSt G) (hq2 : LSc G q2) (gq2 : q2 < 2) (d : Mem) (a1 : Int32) : Rz C 3 G gm (poM avV gm) 0 [(0, .inr (0, 2)), (1, .inl (.int a1)), (2, .inr (q2, 4))] [] d (Re_begin q2 d a1) := by
  unfold Re_begin
  refine z_aload_n (pc := 0) hC 0 rfl 0 rfl dX2_begin_0 ?_
  refine z_iload_n (pc := 1) hC 1 rfl 1 rfl dX2_begin_1 ?_
  refine z_aload_n (pc := 2) hC 0 rfl 0 rfl dX2_begin_2 ?_
  refine z_getc (pc := 3) hC (hX 2 rfl) f_2_2 q246 dX2_begin_3 ?_
  refine z_alen (pc := 6) (n := 700) hC (hX 1 rfl) rfl (700 : Int32) rfl dX2_begin_6 ?_
  refine z_min (pc := 7) hC q478 q479 q150 q480 (Nat.le_of_ble_eq_true rfl) (Nat.le_of_ble_eq_true rfl) dX2_begin_7 ?_
  refine zg_puti (pc := 10) hC (hX 2 rfl) f_2_3 q247 dX2_begin_10 (fun d1 => ?_)
  refine z_aload_n (pc := 13) hC 0 rfl 0 rfl dX2_begin_13 ?_
  refine z_iconst (pc := 14) hC (0 : Int32) rfl dX2_begin_14 ?_
  refine zg_puti (pc := 15) hC (hX 2 rfl) f_2_4 q248 dX2_begin_15 (fun d2 => ?_)
  refine z_aload_n (pc := 18) hC 0 rfl 0 rfl dX2_begin_18 ?_
  refine z_aload_n (pc := 19) hC 2 rfl 2 rfl dX2_begin_19 ?_
  refine zg_putr (pc := 20) (cn := "FrameHeirs$Script") hC (hX 2 rfl) (hq2 4 rfl) f_2_10 q254 (by decide +kernel) dX2_begin_20 (fun d3 => ?_)
  refine z_aload_n (pc := 23) hC 0 rfl 0 rfl dX2_begin_23 ?_
  refine zg_getS (pc := 24) hC hcl (hX 2 rfl) f_2_10 q254 dX2_begin_24 (fun u4 hu4 gu4 => ?_)
  refine z_cvV (pc := 27) (st := []) hC y_X3_clear q481 [] rfl (hu4 4 rfl) rfl rfl (lft_m (c_X3_clear hC.2.2.2.2.2.2.1 hu4)) rfl ⟨rfl, rfl, (Nat.le_of_ble_eq_true rfl), (Nat.le_of_ble_eq_true rfl)⟩ (Nat.le_of_ble_eq_true rfl) dX2_begin_27 (fun r5 d6 => ?_)
  refine z_aload_n (pc := 30) hC 0 rfl 0 rfl dX2_begin_30 ?_
  refine z_iconst (pc := 31) hC (0 : Int32) rfl dX2_begin_31 ?_
  refine zg_puti (pc := 32) hC (hX 2 rfl) f_2_8 q252 dX2_begin_32 (fun d7 => ?_)
  refine z_aload_n (pc := 35) hC 0 rfl 0 rfl dX2_begin_35 ?_
  refine z_iconst (pc := 36) hC (0 : Int32) rfl dX2_begin_36 ?_
  refine zg_puti (pc := 37) hC (hX 2 rfl) f_2_9 q253 dX2_begin_37 (fun d8 => ?_)
  refine z_aload_n (pc := 40) hC 0 rfl 0 rfl dX2_begin_40 ?_
  refine z_iconst (pc := 41) hC (0 : Int32) rfl dX2_begin_41 ?_
  refine zg_puti (pc := 42) hC (hX 2 rfl) f_2_0 q242 dX2_begin_42 (fun d9 => ?_)
  refine z_aload_n (pc := 45) hC 0 rfl 0 rfl dX2_begin_45 ?_
  refine z_iconst (pc := 46) hC (-1 : Int32) rfl dX2_begin_46 ?_
  refine zg_puti (pc := 47) hC (hX 2 rfl) f_2_1 q244 dX2_begin_47 (fun d10 => ?_)
  exact z_vret (pc := 50) hC rfl dX2_begin_50
theorem c_X2_begin {G : Geo} {q2 : Nat} (hG : GOk G) (hcl : GCl G) (hX : LXx G) (hT : LSt G) (hq2 : LSc G q2) (gq2 : q2 < 2) {d : Mem} {a1 : Int32} (l : Launch) (r : Unit) (d1 : Mem) (h : Re_begin q2 d a1 = some (r, d1)) : Mt l yX2_begin cX2_begin 3 none rm_X2_begin G [.inr (0, 2), .inl (.int a1), .inr (q2, 4)] (gm d) (avV r) (gm d1) :=
  mt_of (mem := gm) (po := poM avV gm) (x0 := d) (t := (r, d1)) rfl hG [.inr (0, 2), .inl (.int a1), .inr (q2, 4)] (Nat.le_of_ble_eq_true rfl) rfl (fun C hC => r_Re_begin hC hcl hX hT hq2 gq2 d a1) h
-- FrameHeirs$Reader.takeWord()V
abbrev rm_X2_takeWord : Room := { frames := 1, cells := 0, slots := 0, locals := 20 }
theorem dX2_takeWord_0 : decode cX2_takeWord 0 = .ok (.iconst 0, 1) := by decide +kernel
theorem dX2_takeWord_1 : decode cX2_takeWord 1 = .ok (.istore_n 1, 1) := by decide +kernel
theorem dX2_takeWord_2 : decode cX2_takeWord 2 = .ok (.iconst 0, 1) := by decide +kernel
theorem dX2_takeWord_3 : decode cX2_takeWord 3 = .ok (.istore_n 2, 1) := by decide +kernel
theorem dX2_takeWord_4 : decode cX2_takeWord 4 = .ok (.aload_n 0, 1) := by decide +kernel
theorem dX2_takeWord_5 : decode cX2_takeWord 5 = .ok (.getfield 21, 3) := by decide +kernel
theorem dX2_takeWord_8 : decode cX2_takeWord 8 = .ok (.aload_n 0, 1) := by decide +kernel
theorem dX2_takeWord_9 : decode cX2_takeWord 9 = .ok (.getfield 18, 3) := by decide +kernel
theorem dX2_takeWord_12 : decode cX2_takeWord 12 = .ok (.if_icmp .ge 64, 3) := by decide +kernel
theorem dX2_takeWord_15 : decode cX2_takeWord 15 = .ok (.aload_n 0, 1) := by decide +kernel
theorem dX2_takeWord_16 : decode cX2_takeWord 16 = .ok (.getfield 39, 3) := by decide +kernel
theorem dX2_takeWord_19 : decode cX2_takeWord 19 = .ok (.aload_n 0, 1) := by decide +kernel
theorem dX2_takeWord_20 : decode cX2_takeWord 20 = .ok (.getfield 21, 3) := by decide +kernel
theorem dX2_takeWord_23 : decode cX2_takeWord 23 = .ok (.iaload, 1) := by decide +kernel
theorem dX2_takeWord_24 : decode cX2_takeWord 24 = .ok (.invokestatic 158, 3) := by decide +kernel
theorem dX2_takeWord_27 : decode cX2_takeWord 27 = .ok (.ifCond .eq 49, 3) := by decide +kernel
theorem dX2_takeWord_30 : decode cX2_takeWord 30 = .ok (.iload_n 2, 1) := by decide +kernel
theorem dX2_takeWord_31 : decode cX2_takeWord 31 = .ok (.bipush 6, 2) := by decide +kernel
theorem dX2_takeWord_33 : decode cX2_takeWord 33 = .ok (.if_icmp .ge 27, 3) := by decide +kernel
theorem dX2_takeWord_36 : decode cX2_takeWord 36 = .ok (.iload_n 1, 1) := by decide +kernel
theorem dX2_takeWord_37 : decode cX2_takeWord 37 = .ok (.aload_n 0, 1) := by decide +kernel
theorem dX2_takeWord_38 : decode cX2_takeWord 38 = .ok (.getfield 39, 3) := by decide +kernel
theorem dX2_takeWord_41 : decode cX2_takeWord 41 = .ok (.aload_n 0, 1) := by decide +kernel
theorem dX2_takeWord_42 : decode cX2_takeWord 42 = .ok (.getfield 21, 3) := by decide +kernel
theorem dX2_takeWord_45 : decode cX2_takeWord 45 = .ok (.iaload, 1) := by decide +kernel
theorem dX2_takeWord_46 : decode cX2_takeWord 46 = .ok (.bipush 97, 2) := by decide +kernel
theorem dX2_takeWord_48 : decode cX2_takeWord 48 = .ok (.isub, 1) := by decide +kernel
theorem dX2_takeWord_49 : decode cX2_takeWord 49 = .ok (.iconst 1, 1) := by decide +kernel
theorem dX2_takeWord_50 : decode cX2_takeWord 50 = .ok (.iadd, 1) := by decide +kernel
theorem dX2_takeWord_51 : decode cX2_takeWord 51 = .ok (.bipush 25, 2) := by decide +kernel
theorem dX2_takeWord_53 : decode cX2_takeWord 53 = .ok (.iconst 5, 1) := by decide +kernel
theorem dX2_takeWord_54 : decode cX2_takeWord 54 = .ok (.iload_n 2, 1) := by decide +kernel
theorem dX2_takeWord_55 : decode cX2_takeWord 55 = .ok (.imul, 1) := by decide +kernel
theorem dX2_takeWord_56 : decode cX2_takeWord 56 = .ok (.isub, 1) := by decide +kernel
theorem dX2_takeWord_57 : decode cX2_takeWord 57 = .ok (.ishl, 1) := by decide +kernel
theorem dX2_takeWord_58 : decode cX2_takeWord 58 = .ok (.ior, 1) := by decide +kernel
theorem dX2_takeWord_59 : decode cX2_takeWord 59 = .ok (.istore_n 1, 1) := by decide +kernel
theorem dX2_takeWord_60 : decode cX2_takeWord 60 = .ok (.iinc 2 1, 3) := by decide +kernel
theorem dX2_takeWord_63 : decode cX2_takeWord 63 = .ok (.aload_n 0, 1) := by decide +kernel
theorem dX2_takeWord_64 : decode cX2_takeWord 64 = .ok (.dup, 1) := by decide +kernel
theorem dX2_takeWord_65 : decode cX2_takeWord 65 = .ok (.getfield 21, 3) := by decide +kernel
theorem dX2_takeWord_68 : decode cX2_takeWord 68 = .ok (.iconst 1, 1) := by decide +kernel
theorem dX2_takeWord_69 : decode cX2_takeWord 69 = .ok (.iadd, 1) := by decide +kernel
theorem dX2_takeWord_70 : decode cX2_takeWord 70 = .ok (.putfield 21, 3) := by decide +kernel
theorem dX2_takeWord_73 : decode cX2_takeWord 73 = .ok (.goto (-69), 3) := by decide +kernel
theorem dX2_takeWord_76 : decode cX2_takeWord 76 = .ok (.aload_n 0, 1) := by decide +kernel
theorem dX2_takeWord_77 : decode cX2_takeWord 77 = .ok (.iload_n 2, 1) := by decide +kernel
theorem dX2_takeWord_78 : decode cX2_takeWord 78 = .ok (.bipush 6, 2) := by decide +kernel
theorem dX2_takeWord_80 : decode cX2_takeWord 80 = .ok (.if_icmp .le 7, 3) := by decide +kernel
theorem dX2_takeWord_83 : decode cX2_takeWord 83 = .ok (.iconst 5, 1) := by decide +kernel
theorem dX2_takeWord_84 : decode cX2_takeWord 84 = .ok (.goto 4, 3) := by decide +kernel
theorem dX2_takeWord_87 : decode cX2_takeWord 87 = .ok (.iconst 1, 1) := by decide +kernel
theorem dX2_takeWord_88 : decode cX2_takeWord 88 = .ok (.putfield 24, 3) := by decide +kernel
theorem dX2_takeWord_91 : decode cX2_takeWord 91 = .ok (.aload_n 0, 1) := by decide +kernel
theorem dX2_takeWord_92 : decode cX2_takeWord 92 = .ok (.iload_n 1, 1) := by decide +kernel
theorem dX2_takeWord_93 : decode cX2_takeWord 93 = .ok (.putfield 30, 3) := by decide +kernel
theorem dX2_takeWord_96 : decode cX2_takeWord 96 = .ok (.iconst 0, 1) := by decide +kernel
theorem dX2_takeWord_97 : decode cX2_takeWord 97 = .ok (.istore_n 3, 1) := by decide +kernel
theorem dX2_takeWord_98 : decode cX2_takeWord 98 = .ok (.iload_n 3, 1) := by decide +kernel
theorem dX2_takeWord_99 : decode cX2_takeWord 99 = .ok (.getstatic 170, 3) := by decide +kernel
theorem dX2_takeWord_102 : decode cX2_takeWord 102 = .ok (.arraylength, 1) := by decide +kernel
theorem dX2_takeWord_103 : decode cX2_takeWord 103 = .ok (.if_icmp .ge 36, 3) := by decide +kernel
theorem dX2_takeWord_106 : decode cX2_takeWord 106 = .ok (.aload_n 0, 1) := by decide +kernel
theorem dX2_takeWord_107 : decode cX2_takeWord 107 = .ok (.getfield 24, 3) := by decide +kernel
theorem dX2_takeWord_110 : decode cX2_takeWord 110 = .ok (.iconst 1, 1) := by decide +kernel
theorem dX2_takeWord_111 : decode cX2_takeWord 111 = .ok (.if_icmp .ne 28, 3) := by decide +kernel
theorem dX2_takeWord_114 : decode cX2_takeWord 114 = .ok (.getstatic 170, 3) := by decide +kernel
theorem dX2_takeWord_117 : decode cX2_takeWord 117 = .ok (.iload_n 3, 1) := by decide +kernel
theorem dX2_takeWord_118 : decode cX2_takeWord 118 = .ok (.iaload, 1) := by decide +kernel
theorem dX2_takeWord_119 : decode cX2_takeWord 119 = .ok (.iload_n 1, 1) := by decide +kernel
theorem dX2_takeWord_120 : decode cX2_takeWord 120 = .ok (.if_icmp .ne 13, 3) := by decide +kernel
theorem dX2_takeWord_123 : decode cX2_takeWord 123 = .ok (.aload_n 0, 1) := by decide +kernel
theorem dX2_takeWord_124 : decode cX2_takeWord 124 = .ok (.iconst 2, 1) := by decide +kernel
theorem dX2_takeWord_125 : decode cX2_takeWord 125 = .ok (.putfield 24, 3) := by decide +kernel
theorem dX2_takeWord_128 : decode cX2_takeWord 128 = .ok (.aload_n 0, 1) := by decide +kernel
theorem dX2_takeWord_129 : decode cX2_takeWord 129 = .ok (.iload_n 3, 1) := by decide +kernel
theorem dX2_takeWord_130 : decode cX2_takeWord 130 = .ok (.putfield 30, 3) := by decide +kernel
theorem dX2_takeWord_133 : decode cX2_takeWord 133 = .ok (.iinc 3 1, 3) := by decide +kernel
theorem dX2_takeWord_136 : decode cX2_takeWord 136 = .ok (.goto (-38), 3) := by decide +kernel
theorem dX2_takeWord_139 : decode cX2_takeWord 139 = .ok (.return_, 1) := by decide +kernel
def Re_takeWord_133 (k98 : Int32 → Int32 → Mem → Option (Unit × Mem)) (v1 : Int32) (v3 : Int32) (d : Mem) : Option (Unit × Mem) :=
  bnd (v3 + (1 : Int32)) fun v3_1 =>
  k98 v1 v3_1 d
def Re_takeWord_98 : Nat → Int32 → Int32 → Mem → Option (Unit × Mem)
  | 0, _, _, _ => none
  | n + 1, v1, v3, d =>
    if (12 : Int32) ≤ v3 then
      (some ((), d))
    else
      (if (d 0 2 5) = (1 : Int32) then
        (if inb v3 12 then
        if (d 0 48 (ix v3)) = v1 then
          (bnd (wrM d 0 2 5 (2 : Int32)) fun d2 =>
          bnd (wrM d2 0 2 7 v3) fun d3 =>
          Re_takeWord_133 (Re_takeWord_98 n) v1 v3 d3)
        else
          (Re_takeWord_133 (Re_takeWord_98 n) v1 v3 d)
        else none)
      else
        (some ((), d)))
def Re_takeWord_88 (v1 : Int32) (s0 : Int32) (d : Mem) : Option (Unit × Mem) :=
  bnd (wrM d 0 2 5 s0) fun d4 =>
  bnd (wrM d4 0 2 7 v1) fun d5 =>
  bnd (0 : Int32) fun v3_6 =>
  Re_takeWord_98 FU v1 v3_6 d5
def Re_takeWord_76 (v1 : Int32) (v2 : Int32) (d : Mem) : Option (Unit × Mem) :=
  if v2 ≤ (6 : Int32) then
    (Re_takeWord_88 v1 (1 : Int32) d)
  else
    (Re_takeWord_88 v1 (5 : Int32) d)
def Re_takeWord_60 (k4 : Int32 → Int32 → Mem → Option (Unit × Mem)) (v1 : Int32) (v2 : Int32) (d : Mem) : Option (Unit × Mem) :=
  bnd (v2 + (1 : Int32)) fun v2_7 =>
  bnd (wrM d 0 2 4 ((d 0 2 4) + (1 : Int32))) fun d8 =>
  k4 v1 v2_7 d8
def Re_takeWord_4 : Nat → Int32 → Int32 → Mem → Option (Unit × Mem)
  | 0, _, _, _ => none
  | n + 1, v1, v2, d =>
    if (d 0 2 3) ≤ (d 0 2 4) then
      (Re_takeWord_76 v1 v2 d)
    else
      (if inb (d 0 2 4) 700 then
      bp (Re_isLetter (d 0 1 (ix (d 0 2 4)))) fun r9 =>
      if r9 = 0 then
        (Re_takeWord_76 v1 v2 d)
      else
        (if (6 : Int32) ≤ v2 then
          (Re_takeWord_60 (Re_takeWord_4 n) v1 v2 d)
        else
          (if inb (d 0 2 4) 700 then
          bnd (v1 ||| ((((d 0 1 (ix (d 0 2 4))) - (97 : Int32)) + (1 : Int32)) <<< (((25 : Int32) - ((5 : Int32) * v2)) &&& 31))) fun v1_10 =>
          Re_takeWord_60 (Re_takeWord_4 n) v1_10 v2 d
          else none))
      else none)
def Re_takeWord (d : Mem) : Option (Unit × Mem) :=
  bnd (0 : Int32) fun v1_11 =>
  bnd (0 : Int32) fun v2_12 =>
  Re_takeWord_4 FU v1_11 v2_12 d
theorem y_X2_takeWord : YV yX2_takeWord cX2_takeWord 4 none 0 := ⟨q501, q2, q502, q145, by decide +kernel, by decide +kernel, by decide +kernel, by decide +kernel⟩
theorem r_Re_takeWord_133 {C : Cxt} {G : Geo} (hC : Cx C cX2_takeWord 4 "FrameHeirs$Reader" none rm_X2_takeWord G) (hcl : GCl G) (hX : LXx G) (hT : LSt G) (k98 : Int32 → Int32 → Mem → Option (Unit × Mem)) (h98 : ∀ (v1 : Int32) (v3 : Int32) (d : Mem), Rz C 4 G gm (poM avV gm) 98 [(0, .inr (0, 2)), (1, .inl (.int v1)), (3, .inl (.int v3))] [] d (k98 v1 v3 d)) (v1 : Int32) (v3 : Int32) (d : Mem) : Rz C 4 G gm (poM avV gm) 133 [(0, .inr (0, 2)), (1, .inl (.int v1)), (3, .inl (.int v3))] [] d (Re_takeWord_133 k98 v1 v3 d) := by
  unfold Re_takeWord_133
  refine z_iinc (pc := 133) (ls1 := fun v => [(3, .inl (.int v)), (0, .inr (0, 2)), (1, .inl (.int v1))]) hC 3 2 (by decide) (1 : Int32) rfl rfl (fun v => rfl) dX2_takeWord_133 (fun v3_1 => ?_)
  refine z_goto (pc := 136) hC 98 rfl dX2_takeWord_136 ?_
  exact z_sub [1, 2, 0] rfl (h98 v1 v3_1 d)
theorem r_Re_takeWord_98 {C : Cxt} {G : Geo} (hC : Cx C cX2_takeWord 4 "FrameHeirs$Reader" none rm_X2_takeWord G) (hcl : GCl G) (hX : LXx G) (hT : LSt G) : ∀ (n : Nat) (v1 : Int32) (v3 : Int32) (d : Mem), Rz C 4 G gm (poM avV gm) 98 [(0, .inr (0, 2)), (1, .inl (.int v1)), (3, .inl (.int v3))] [] d (Re_takeWord_98 n v1 v3 d) := by
  intro n
  induction n with
  | zero => intros; exact z_none
  | succ n ih =>
    intro v1 v3 d
    rw [Re_takeWord_98]
    refine z_iload_n (pc := 98) hC 3 rfl 2 rfl dX2_takeWord_98 ?_
    refine z_gets (pc := 99) hC (hT 48 rfl) (by decide) (by decide) q503 dX2_takeWord_99 ?_
    refine z_alen (pc := 102) (n := 12) hC (hT 48 rfl) rfl (12 : Int32) rfl dX2_takeWord_102 ?_
    refine z_icmp_ge (pc := 103) hC 139 rfl dX2_takeWord_103 ?_ ?_
    · exact z_vret (pc := 139) hC rfl dX2_takeWord_139
    · refine z_aload_n (pc := 106) hC 0 rfl 0 rfl dX2_takeWord_106 ?_
      refine zg_geti (pc := 107) hC (hX 2 rfl) f_2_5 q249 dX2_takeWord_107 ?_
      refine z_iconst (pc := 110) hC (1 : Int32) rfl dX2_takeWord_110 ?_
      refine z_icmp_ne (pc := 111) hC 139 rfl dX2_takeWord_111 ?_ ?_
      · exact z_vret (pc := 139) hC rfl dX2_takeWord_139
      · refine z_gets (pc := 114) hC (hT 48 rfl) (by decide) (by decide) q503 dX2_takeWord_114 ?_
        refine z_iload_n (pc := 117) hC 3 rfl 2 rfl dX2_takeWord_117 ?_
        refine zg_iald (pc := 118) hC (hT 48 rfl) rfl dX2_takeWord_118 ?_
        refine z_iload_n (pc := 119) hC 1 rfl 1 rfl dX2_takeWord_119 ?_
        refine z_icmp_ne (pc := 120) hC 133 rfl dX2_takeWord_120 ?_ ?_
        · exact z_sub [0, 1, 2] rfl (r_Re_takeWord_133 hC hcl hX hT _ ih v1 v3 d)
        · refine z_aload_n (pc := 123) hC 0 rfl 0 rfl dX2_takeWord_123 ?_
          refine z_iconst (pc := 124) hC (2 : Int32) rfl dX2_takeWord_124 ?_
          refine zg_puti (pc := 125) hC (hX 2 rfl) f_2_5 q249 dX2_takeWord_125 (fun d2 => ?_)
          refine z_aload_n (pc := 128) hC 0 rfl 0 rfl dX2_takeWord_128 ?_
          refine z_iload_n (pc := 129) hC 3 rfl 2 rfl dX2_takeWord_129 ?_
          refine zg_puti (pc := 130) hC (hX 2 rfl) f_2_7 q251 dX2_takeWord_130 (fun d3 => ?_)
          exact z_sub [0, 1, 2] rfl (r_Re_takeWord_133 hC hcl hX hT _ ih v1 v3 d3)
theorem r_Re_takeWord_88 {C : Cxt} {G : Geo} (hC : Cx C cX2_takeWord 4 "FrameHeirs$Reader" none rm_X2_takeWord G) (hcl : GCl G) (hX : LXx G) (hT : LSt G) (v1 : Int32) (s0 : Int32) (d : Mem) : Rz C 4 G gm (poM avV gm) 88 [(0, .inr (0, 2)), (1, .inl (.int v1))] [.inl (.int s0), .inr (0, 2)] d (Re_takeWord_88 v1 s0 d) := by
  unfold Re_takeWord_88
  refine zg_puti (pc := 88) hC (hX 2 rfl) f_2_5 q249 dX2_takeWord_88 (fun d4 => ?_)
  refine z_aload_n (pc := 91) hC 0 rfl 0 rfl dX2_takeWord_91 ?_
  refine z_iload_n (pc := 92) hC 1 rfl 1 rfl dX2_takeWord_92 ?_
  refine zg_puti (pc := 93) hC (hX 2 rfl) f_2_7 q251 dX2_takeWord_93 (fun d5 => ?_)
  refine z_iconst (pc := 96) hC (0 : Int32) rfl dX2_takeWord_96 ?_
  refine z_istore_n (pc := 97) (ls1 := fun v => [(3, .inl (.int v)), (0, .inr (0, 2)), (1, .inl (.int v1))]) hC 3 rfl (by decide) (fun v => rfl) dX2_takeWord_97 (fun v3_6 => ?_)
  exact z_sub [1, 2, 0] rfl (r_Re_takeWord_98 hC hcl hX hT FU v1 v3_6 d5)
theorem r_Re_takeWord_76 {C : Cxt} {G : Geo} (hC : Cx C cX2_takeWord 4 "FrameHeirs$Reader" none rm_X2_takeWord G) (hcl : GCl G) (hX : LXx G) (hT : LSt G) (v1 : Int32) (v2 : Int32) (d : Mem) : Rz C 4 G gm (poM avV gm) 76 [(0, .inr (0, 2)), (1, .inl (.int v1)), (2, .inl (.int v2))] [] d (Re_takeWord_76 v1 v2 d) := by
  unfold Re_takeWord_76
  refine z_aload_n (pc := 76) hC 0 rfl 0 rfl dX2_takeWord_76 ?_
  refine z_iload_n (pc := 77) hC 2 rfl 2 rfl dX2_takeWord_77 ?_
  refine z_bipush (pc := 78) hC (6 : Int32) rfl dX2_takeWord_78 ?_
  refine z_icmp_le (pc := 80) hC 87 rfl dX2_takeWord_80 ?_ ?_
  · refine z_iconst (pc := 87) hC (1 : Int32) rfl dX2_takeWord_87 ?_
    exact z_sub [0, 1] rfl (r_Re_takeWord_88 hC hcl hX hT v1 (1 : Int32) d)
  · refine z_iconst (pc := 83) hC (5 : Int32) rfl dX2_takeWord_83 ?_
    refine z_goto (pc := 84) hC 88 rfl dX2_takeWord_84 ?_
    exact z_sub [0, 1] rfl (r_Re_takeWord_88 hC hcl hX hT v1 (5 : Int32) d)
theorem r_Re_takeWord_60 {C : Cxt} {G : Geo} (hC : Cx C cX2_takeWord 4 "FrameHeirs$Reader" none rm_X2_takeWord G) (hcl : GCl G) (hX : LXx G) (hT : LSt G) (k4 : Int32 → Int32 → Mem → Option (Unit × Mem)) (h4 : ∀ (v1 : Int32) (v2 : Int32) (d : Mem), Rz C 4 G gm (poM avV gm) 4 [(0, .inr (0, 2)), (1, .inl (.int v1)), (2, .inl (.int v2))] [] d (k4 v1 v2 d)) (v1 : Int32) (v2 : Int32) (d : Mem) : Rz C 4 G gm (poM avV gm) 60 [(0, .inr (0, 2)), (1, .inl (.int v1)), (2, .inl (.int v2))] [] d (Re_takeWord_60 k4 v1 v2 d) := by
  unfold Re_takeWord_60
  refine z_iinc (pc := 60) (ls1 := fun v => [(2, .inl (.int v)), (0, .inr (0, 2)), (1, .inl (.int v1))]) hC 2 2 (by decide) (1 : Int32) rfl rfl (fun v => rfl) dX2_takeWord_60 (fun v2_7 => ?_)
  refine z_aload_n (pc := 63) hC 0 rfl 1 rfl dX2_takeWord_63 ?_
  refine z_dup (pc := 64) hC rfl dX2_takeWord_64 ?_
  refine zg_geti (pc := 65) hC (hX 2 rfl) f_2_4 q248 dX2_takeWord_65 ?_
  refine z_iconst (pc := 68) hC (1 : Int32) rfl dX2_takeWord_68 ?_
  refine z_iadd (pc := 69) hC dX2_takeWord_69 ?_
  refine zg_puti (pc := 70) hC (hX 2 rfl) f_2_4 q248 dX2_takeWord_70 (fun d8 => ?_)
  refine z_goto (pc := 73) hC 4 rfl dX2_takeWord_73 ?_
  exact z_sub [1, 2, 0] rfl (h4 v1 v2_7 d8)
theorem r_Re_takeWord_4 {C : Cxt} {G : Geo} (hC : Cx C cX2_takeWord 4 "FrameHeirs$Reader" none rm_X2_takeWord G) (hcl : GCl G) (hX : LXx G) (hT : LSt G) : ∀ (n : Nat) (v1 : Int32) (v2 : Int32) (d : Mem), Rz C 4 G gm (poM avV gm) 4 [(0, .inr (0, 2)), (1, .inl (.int v1)), (2, .inl (.int v2))] [] d (Re_takeWord_4 n v1 v2 d) := by
  intro n
  induction n with
  | zero => intros; exact z_none
  | succ n ih =>
    intro v1 v2 d
    rw [Re_takeWord_4]
    refine z_aload_n (pc := 4) hC 0 rfl 0 rfl dX2_takeWord_4 ?_
    refine zg_geti (pc := 5) hC (hX 2 rfl) f_2_4 q248 dX2_takeWord_5 ?_
    refine z_aload_n (pc := 8) hC 0 rfl 0 rfl dX2_takeWord_8 ?_
    refine zg_geti (pc := 9) hC (hX 2 rfl) f_2_3 q247 dX2_takeWord_9 ?_
    refine z_icmp_ge (pc := 12) hC 76 rfl dX2_takeWord_12 ?_ ?_
    · exact z_sub [0, 1, 2] rfl (r_Re_takeWord_76 hC hcl hX hT v1 v2 d)
    · refine z_aload_n (pc := 15) hC 0 rfl 0 rfl dX2_takeWord_15 ?_
      refine z_getc (pc := 16) hC (hX 2 rfl) f_2_2 q246 dX2_takeWord_16 ?_
      refine z_aload_n (pc := 19) hC 0 rfl 0 rfl dX2_takeWord_19 ?_
      refine zg_geti (pc := 20) hC (hX 2 rfl) f_2_4 q248 dX2_takeWord_20 ?_
      refine zg_iald (pc := 23) hC (hX 1 rfl) rfl dX2_takeWord_23 ?_
      refine z_piS (pc := 24) (st := []) hC y_X2_isLetter q496 [.inl (.int (d 0 1 (ix (d 0 2 4))))] rfl (c_X2_isLetter hC.2.2.2.2.2.2.1) rfl ⟨rfl, rfl, (Nat.le_of_ble_eq_true rfl), (Nat.le_of_ble_eq_true rfl)⟩ (Nat.le_of_ble_eq_true rfl) dX2_takeWord_24 (fun r9 => ?_)
      refine z_if_eq (pc := 27) hC 76 rfl dX2_takeWord_27 ?_ ?_
      · exact z_sub [0, 1, 2] rfl (r_Re_takeWord_76 hC hcl hX hT v1 v2 d)
      · refine z_iload_n (pc := 30) hC 2 rfl 2 rfl dX2_takeWord_30 ?_
        refine z_bipush (pc := 31) hC (6 : Int32) rfl dX2_takeWord_31 ?_
        refine z_icmp_ge (pc := 33) hC 60 rfl dX2_takeWord_33 ?_ ?_
        · exact z_sub [0, 1, 2] rfl (r_Re_takeWord_60 hC hcl hX hT _ ih v1 v2 d)
        · refine z_iload_n (pc := 36) hC 1 rfl 1 rfl dX2_takeWord_36 ?_
          refine z_aload_n (pc := 37) hC 0 rfl 0 rfl dX2_takeWord_37 ?_
          refine z_getc (pc := 38) hC (hX 2 rfl) f_2_2 q246 dX2_takeWord_38 ?_
          refine z_aload_n (pc := 41) hC 0 rfl 0 rfl dX2_takeWord_41 ?_
          refine zg_geti (pc := 42) hC (hX 2 rfl) f_2_4 q248 dX2_takeWord_42 ?_
          refine zg_iald (pc := 45) hC (hX 1 rfl) rfl dX2_takeWord_45 ?_
          refine z_bipush (pc := 46) hC (97 : Int32) rfl dX2_takeWord_46 ?_
          refine z_isub (pc := 48) hC dX2_takeWord_48 ?_
          refine z_iconst (pc := 49) hC (1 : Int32) rfl dX2_takeWord_49 ?_
          refine z_iadd (pc := 50) hC dX2_takeWord_50 ?_
          refine z_bipush (pc := 51) hC (25 : Int32) rfl dX2_takeWord_51 ?_
          refine z_iconst (pc := 53) hC (5 : Int32) rfl dX2_takeWord_53 ?_
          refine z_iload_n (pc := 54) hC 2 rfl 2 rfl dX2_takeWord_54 ?_
          refine z_imul (pc := 55) hC dX2_takeWord_55 ?_
          refine z_isub (pc := 56) hC dX2_takeWord_56 ?_
          refine z_ishl (pc := 57) hC dX2_takeWord_57 ?_
          refine z_ior (pc := 58) hC dX2_takeWord_58 ?_
          refine z_istore_n (pc := 59) (ls1 := fun v => [(1, .inl (.int v)), (0, .inr (0, 2)), (2, .inl (.int v2))]) hC 1 rfl (by decide) (fun v => rfl) dX2_takeWord_59 (fun v1_10 => ?_)
          exact z_sub [1, 0, 2] rfl (r_Re_takeWord_60 hC hcl hX hT _ ih v1_10 v2 d)
theorem r_Re_takeWord {C : Cxt} {G : Geo} (hC : Cx C cX2_takeWord 4 "FrameHeirs$Reader" none rm_X2_takeWord G) (hcl : GCl G) (hX : LXx G) (hT : LSt G) (d : Mem) : Rz C 4 G gm (poM avV gm) 0 [(0, .inr (0, 2))] [] d (Re_takeWord d) := by
  unfold Re_takeWord
  refine z_iconst (pc := 0) hC (0 : Int32) rfl dX2_takeWord_0 ?_
  refine z_istore_n (pc := 1) (ls1 := fun v => [(1, .inl (.int v)), (0, .inr (0, 2))]) hC 1 rfl (by decide) (fun v => rfl) dX2_takeWord_1 (fun v1_11 => ?_)
  refine z_iconst (pc := 2) hC (0 : Int32) rfl dX2_takeWord_2 ?_
  refine z_istore_n (pc := 3) (ls1 := fun v => [(2, .inl (.int v)), (1, .inl (.int v1_11)), (0, .inr (0, 2))]) hC 2 rfl (by decide) (fun v => rfl) dX2_takeWord_3 (fun v2_12 => ?_)
  exact z_sub [2, 1, 0] rfl (r_Re_takeWord_4 hC hcl hX hT FU v1_11 v2_12 d)
theorem c_X2_takeWord {G : Geo} (hG : GOk G) (hcl : GCl G) (hX : LXx G) (hT : LSt G) {d : Mem} (l : Launch) (r : Unit) (d1 : Mem) (h : Re_takeWord d = some (r, d1)) : Mt l yX2_takeWord cX2_takeWord 4 none rm_X2_takeWord G [.inr (0, 2)] (gm d) (avV r) (gm d1) :=
  mt_of (mem := gm) (po := poM avV gm) (x0 := d) (t := (r, d1)) rfl hG [.inr (0, 2)] (Nat.le_of_ble_eq_true rfl) rfl (fun C hC => r_Re_takeWord hC hcl hX hT d) h
-- FrameHeirs$Reader.takeDigits()V
abbrev rm_X2_takeDigits : Room := { frames := 1, cells := 0, slots := 0, locals := 21 }
theorem dX2_takeDigits_0 : decode cX2_takeDigits 0 = .ok (.iconst 0, 1) := by decide +kernel
theorem dX2_takeDigits_1 : decode cX2_takeDigits 1 = .ok (.istore_n 1, 1) := by decide +kernel
theorem dX2_takeDigits_2 : decode cX2_takeDigits 2 = .ok (.aload_n 0, 1) := by decide +kernel
theorem dX2_takeDigits_3 : decode cX2_takeDigits 3 = .ok (.getfield 21, 3) := by decide +kernel
theorem dX2_takeDigits_6 : decode cX2_takeDigits 6 = .ok (.aload_n 0, 1) := by decide +kernel
theorem dX2_takeDigits_7 : decode cX2_takeDigits 7 = .ok (.getfield 18, 3) := by decide +kernel
theorem dX2_takeDigits_10 : decode cX2_takeDigits 10 = .ok (.if_icmp .ge 54, 3) := by decide +kernel
theorem dX2_takeDigits_13 : decode cX2_takeDigits 13 = .ok (.aload_n 0, 1) := by decide +kernel
theorem dX2_takeDigits_14 : decode cX2_takeDigits 14 = .ok (.getfield 39, 3) := by decide +kernel
theorem dX2_takeDigits_17 : decode cX2_takeDigits 17 = .ok (.aload_n 0, 1) := by decide +kernel
theorem dX2_takeDigits_18 : decode cX2_takeDigits 18 = .ok (.getfield 21, 3) := by decide +kernel
theorem dX2_takeDigits_21 : decode cX2_takeDigits 21 = .ok (.iaload, 1) := by decide +kernel
theorem dX2_takeDigits_22 : decode cX2_takeDigits 22 = .ok (.invokestatic 164, 3) := by decide +kernel
theorem dX2_takeDigits_25 : decode cX2_takeDigits 25 = .ok (.ifCond .eq 39, 3) := by decide +kernel
theorem dX2_takeDigits_28 : decode cX2_takeDigits 28 = .ok (.iload_n 1, 1) := by decide +kernel
theorem dX2_takeDigits_29 : decode cX2_takeDigits 29 = .ok (.bipush 10, 2) := by decide +kernel
theorem dX2_takeDigits_31 : decode cX2_takeDigits 31 = .ok (.imul, 1) := by decide +kernel
theorem dX2_takeDigits_32 : decode cX2_takeDigits 32 = .ok (.aload_n 0, 1) := by decide +kernel
theorem dX2_takeDigits_33 : decode cX2_takeDigits 33 = .ok (.getfield 39, 3) := by decide +kernel
theorem dX2_takeDigits_36 : decode cX2_takeDigits 36 = .ok (.aload_n 0, 1) := by decide +kernel
theorem dX2_takeDigits_37 : decode cX2_takeDigits 37 = .ok (.getfield 21, 3) := by decide +kernel
theorem dX2_takeDigits_40 : decode cX2_takeDigits 40 = .ok (.iaload, 1) := by decide +kernel
theorem dX2_takeDigits_41 : decode cX2_takeDigits 41 = .ok (.iadd, 1) := by decide +kernel
theorem dX2_takeDigits_42 : decode cX2_takeDigits 42 = .ok (.bipush 48, 2) := by decide +kernel
theorem dX2_takeDigits_44 : decode cX2_takeDigits 44 = .ok (.isub, 1) := by decide +kernel
theorem dX2_takeDigits_45 : decode cX2_takeDigits 45 = .ok (.ldc 173, 2) := by decide +kernel
theorem dX2_takeDigits_47 : decode cX2_takeDigits 47 = .ok (.invokestatic 47, 3) := by decide +kernel
theorem dX2_takeDigits_50 : decode cX2_takeDigits 50 = .ok (.istore_n 1, 1) := by decide +kernel
theorem dX2_takeDigits_51 : decode cX2_takeDigits 51 = .ok (.aload_n 0, 1) := by decide +kernel
theorem dX2_takeDigits_52 : decode cX2_takeDigits 52 = .ok (.dup, 1) := by decide +kernel
theorem dX2_takeDigits_53 : decode cX2_takeDigits 53 = .ok (.getfield 21, 3) := by decide +kernel
theorem dX2_takeDigits_56 : decode cX2_takeDigits 56 = .ok (.iconst 1, 1) := by decide +kernel
theorem dX2_takeDigits_57 : decode cX2_takeDigits 57 = .ok (.iadd, 1) := by decide +kernel
theorem dX2_takeDigits_58 : decode cX2_takeDigits 58 = .ok (.putfield 21, 3) := by decide +kernel
theorem dX2_takeDigits_61 : decode cX2_takeDigits 61 = .ok (.goto (-59), 3) := by decide +kernel
theorem dX2_takeDigits_64 : decode cX2_takeDigits 64 = .ok (.aload_n 0, 1) := by decide +kernel
theorem dX2_takeDigits_65 : decode cX2_takeDigits 65 = .ok (.iconst 3, 1) := by decide +kernel
theorem dX2_takeDigits_66 : decode cX2_takeDigits 66 = .ok (.putfield 24, 3) := by decide +kernel
theorem dX2_takeDigits_69 : decode cX2_takeDigits 69 = .ok (.aload_n 0, 1) := by decide +kernel
theorem dX2_takeDigits_70 : decode cX2_takeDigits 70 = .ok (.iload_n 1, 1) := by decide +kernel
theorem dX2_takeDigits_71 : decode cX2_takeDigits 71 = .ok (.putfield 30, 3) := by decide +kernel
theorem dX2_takeDigits_74 : decode cX2_takeDigits 74 = .ok (.return_, 1) := by decide +kernel
def Re_takeDigits_64 (v1 : Int32) (d : Mem) : Option (Unit × Mem) :=
  bnd (wrM d 0 2 5 (3 : Int32)) fun d1 =>
  bnd (wrM d1 0 2 7 v1) fun d2 =>
  some ((), d2)
def Re_takeDigits_2 : Nat → Int32 → Mem → Option (Unit × Mem)
  | 0, _, _ => none
  | n + 1, v1, d =>
    if (d 0 2 3) ≤ (d 0 2 4) then
      (Re_takeDigits_64 v1 d)
    else
      (if inb (d 0 2 4) 700 then
      bp (Re_isDigit (d 0 1 (ix (d 0 2 4)))) fun r3 =>
      if r3 = 0 then
        (Re_takeDigits_64 v1 d)
      else
        (if inb (d 0 2 4) 700 then
        bnd (if (1000000 : Int32) < (((v1 * (10 : Int32)) + (d 0 1 (ix (d 0 2 4)))) - (48 : Int32)) then (1000000 : Int32) else (((v1 * (10 : Int32)) + (d 0 1 (ix (d 0 2 4)))) - (48 : Int32))) fun v1_4 =>
        bnd (wrM d 0 2 4 ((d 0 2 4) + (1 : Int32))) fun d5 =>
        Re_takeDigits_2 n v1_4 d5
        else none)
      else none)
def Re_takeDigits (d : Mem) : Option (Unit × Mem) :=
  bnd (0 : Int32) fun v1_6 =>
  Re_takeDigits_2 FU v1_6 d
theorem y_X2_takeDigits : YV yX2_takeDigits cX2_takeDigits 2 none 0 := ⟨q510, q3, q511, q145, by decide +kernel, by decide +kernel, by decide +kernel, by decide +kernel⟩
theorem r_Re_takeDigits_64 {C : Cxt} {G : Geo} (hC : Cx C cX2_takeDigits 2 "FrameHeirs$Reader" none rm_X2_takeDigits G) (hcl : GCl G) (hX : LXx G) (hT : LSt G) (v1 : Int32) (d : Mem) : Rz C 2 G gm (poM avV gm) 64 [(0, .inr (0, 2)), (1, .inl (.int v1))] [] d (Re_takeDigits_64 v1 d) := by
  unfold Re_takeDigits_64
  refine z_aload_n (pc := 64) hC 0 rfl 0 rfl dX2_takeDigits_64 ?_
  refine z_iconst (pc := 65) hC (3 : Int32) rfl dX2_takeDigits_65 ?_
  refine zg_puti (pc := 66) hC (hX 2 rfl) f_2_5 q249 dX2_takeDigits_66 (fun d1 => ?_)
  refine z_aload_n (pc := 69) hC 0 rfl 0 rfl dX2_takeDigits_69 ?_
  refine z_iload_n (pc := 70) hC 1 rfl 1 rfl dX2_takeDigits_70 ?_
  refine zg_puti (pc := 71) hC (hX 2 rfl) f_2_7 q251 dX2_takeDigits_71 (fun d2 => ?_)
  exact z_vret (pc := 74) hC rfl dX2_takeDigits_74
theorem r_Re_takeDigits_2 {C : Cxt} {G : Geo} (hC : Cx C cX2_takeDigits 2 "FrameHeirs$Reader" none rm_X2_takeDigits G) (hcl : GCl G) (hX : LXx G) (hT : LSt G) : ∀ (n : Nat) (v1 : Int32) (d : Mem), Rz C 2 G gm (poM avV gm) 2 [(0, .inr (0, 2)), (1, .inl (.int v1))] [] d (Re_takeDigits_2 n v1 d) := by
  intro n
  induction n with
  | zero => intros; exact z_none
  | succ n ih =>
    intro v1 d
    rw [Re_takeDigits_2]
    refine z_aload_n (pc := 2) hC 0 rfl 0 rfl dX2_takeDigits_2 ?_
    refine zg_geti (pc := 3) hC (hX 2 rfl) f_2_4 q248 dX2_takeDigits_3 ?_
    refine z_aload_n (pc := 6) hC 0 rfl 0 rfl dX2_takeDigits_6 ?_
    refine zg_geti (pc := 7) hC (hX 2 rfl) f_2_3 q247 dX2_takeDigits_7 ?_
    refine z_icmp_ge (pc := 10) hC 64 rfl dX2_takeDigits_10 ?_ ?_
    · exact z_sub [0, 1] rfl (r_Re_takeDigits_64 hC hcl hX hT v1 d)
    · refine z_aload_n (pc := 13) hC 0 rfl 0 rfl dX2_takeDigits_13 ?_
      refine z_getc (pc := 14) hC (hX 2 rfl) f_2_2 q246 dX2_takeDigits_14 ?_
      refine z_aload_n (pc := 17) hC 0 rfl 0 rfl dX2_takeDigits_17 ?_
      refine zg_geti (pc := 18) hC (hX 2 rfl) f_2_4 q248 dX2_takeDigits_18 ?_
      refine zg_iald (pc := 21) hC (hX 1 rfl) rfl dX2_takeDigits_21 ?_
      refine z_piS (pc := 22) (st := []) hC y_X2_isDigit q505 [.inl (.int (d 0 1 (ix (d 0 2 4))))] rfl (c_X2_isDigit hC.2.2.2.2.2.2.1) rfl ⟨rfl, rfl, (Nat.le_of_ble_eq_true rfl), (Nat.le_of_ble_eq_true rfl)⟩ (Nat.le_of_ble_eq_true rfl) dX2_takeDigits_22 (fun r3 => ?_)
      refine z_if_eq (pc := 25) hC 64 rfl dX2_takeDigits_25 ?_ ?_
      · exact z_sub [0, 1] rfl (r_Re_takeDigits_64 hC hcl hX hT v1 d)
      · refine z_iload_n (pc := 28) hC 1 rfl 1 rfl dX2_takeDigits_28 ?_
        refine z_bipush (pc := 29) hC (10 : Int32) rfl dX2_takeDigits_29 ?_
        refine z_imul (pc := 31) hC dX2_takeDigits_31 ?_
        refine z_aload_n (pc := 32) hC 0 rfl 0 rfl dX2_takeDigits_32 ?_
        refine z_getc (pc := 33) hC (hX 2 rfl) f_2_2 q246 dX2_takeDigits_33 ?_
        refine z_aload_n (pc := 36) hC 0 rfl 0 rfl dX2_takeDigits_36 ?_
        refine zg_geti (pc := 37) hC (hX 2 rfl) f_2_4 q248 dX2_takeDigits_37 ?_
        refine zg_iald (pc := 40) hC (hX 1 rfl) rfl dX2_takeDigits_40 ?_
        refine z_iadd (pc := 41) hC dX2_takeDigits_41 ?_
        refine z_bipush (pc := 42) hC (48 : Int32) rfl dX2_takeDigits_42 ?_
        refine z_isub (pc := 44) hC dX2_takeDigits_44 ?_
        refine z_ldc (pc := 45) hC (1000000 : Int32) q512 dX2_takeDigits_45 ?_
        refine z_min (pc := 47) hC q478 q479 q150 q480 (Nat.le_of_ble_eq_true rfl) (Nat.le_of_ble_eq_true rfl) dX2_takeDigits_47 ?_
        refine z_istore_n (pc := 50) (ls1 := fun v => [(1, .inl (.int v)), (0, .inr (0, 2))]) hC 1 rfl (by decide) (fun v => rfl) dX2_takeDigits_50 (fun v1_4 => ?_)
        refine z_aload_n (pc := 51) hC 0 rfl 1 rfl dX2_takeDigits_51 ?_
        refine z_dup (pc := 52) hC rfl dX2_takeDigits_52 ?_
        refine zg_geti (pc := 53) hC (hX 2 rfl) f_2_4 q248 dX2_takeDigits_53 ?_
        refine z_iconst (pc := 56) hC (1 : Int32) rfl dX2_takeDigits_56 ?_
        refine z_iadd (pc := 57) hC dX2_takeDigits_57 ?_
        refine zg_puti (pc := 58) hC (hX 2 rfl) f_2_4 q248 dX2_takeDigits_58 (fun d5 => ?_)
        refine z_goto (pc := 61) hC 2 rfl dX2_takeDigits_61 ?_
        exact z_sub [1, 0] rfl (ih v1_4 d5)
theorem r_Re_takeDigits {C : Cxt} {G : Geo} (hC : Cx C cX2_takeDigits 2 "FrameHeirs$Reader" none rm_X2_takeDigits G) (hcl : GCl G) (hX : LXx G) (hT : LSt G) (d : Mem) : Rz C 2 G gm (poM avV gm) 0 [(0, .inr (0, 2))] [] d (Re_takeDigits d) := by
  unfold Re_takeDigits
  refine z_iconst (pc := 0) hC (0 : Int32) rfl dX2_takeDigits_0 ?_
  refine z_istore_n (pc := 1) (ls1 := fun v => [(1, .inl (.int v)), (0, .inr (0, 2))]) hC 1 rfl (by decide) (fun v => rfl) dX2_takeDigits_1 (fun v1_6 => ?_)
  exact z_sub [1, 0] rfl (r_Re_takeDigits_2 hC hcl hX hT FU v1_6 d)
theorem c_X2_takeDigits {G : Geo} (hG : GOk G) (hcl : GCl G) (hX : LXx G) (hT : LSt G) {d : Mem} (l : Launch) (r : Unit) (d1 : Mem) (h : Re_takeDigits d = some (r, d1)) : Mt l yX2_takeDigits cX2_takeDigits 2 none rm_X2_takeDigits G [.inr (0, 2)] (gm d) (avV r) (gm d1) :=
  mt_of (mem := gm) (po := poM avV gm) (x0 := d) (t := (r, d1)) rfl hG [.inr (0, 2)] (Nat.le_of_ble_eq_true rfl) rfl (fun C hC => r_Re_takeDigits hC hcl hX hT d) h
-- FrameHeirs$Reader.take()V
abbrev rm_X2_take : Room := { frames := 2, cells := 0, slots := 0, locals := 43 }
theorem dX2_take_0 : decode cX2_take 0 = .ok (.aload_n 0, 1) := by decide +kernel
theorem dX2_take_1 : decode cX2_take 1 = .ok (.getfield 21, 3) := by decide +kernel
theorem dX2_take_4 : decode cX2_take 4 = .ok (.aload_n 0, 1) := by decide +kernel
theorem dX2_take_5 : decode cX2_take 5 = .ok (.getfield 18, 3) := by decide +kernel
theorem dX2_take_8 : decode cX2_take 8 = .ok (.if_icmp .ge 31, 3) := by decide +kernel
theorem dX2_take_11 : decode cX2_take 11 = .ok (.aload_n 0, 1) := by decide +kernel
theorem dX2_take_12 : decode cX2_take 12 = .ok (.getfield 39, 3) := by decide +kernel
theorem dX2_take_15 : decode cX2_take 15 = .ok (.aload_n 0, 1) := by decide +kernel
theorem dX2_take_16 : decode cX2_take 16 = .ok (.getfield 21, 3) := by decide +kernel
theorem dX2_take_19 : decode cX2_take 19 = .ok (.iaload, 1) := by decide +kernel
theorem dX2_take_20 : decode cX2_take 20 = .ok (.invokestatic 155, 3) := by decide +kernel
theorem dX2_take_23 : decode cX2_take 23 = .ok (.ifCond .eq 16, 3) := by decide +kernel
theorem dX2_take_26 : decode cX2_take 26 = .ok (.aload_n 0, 1) := by decide +kernel
theorem dX2_take_27 : decode cX2_take 27 = .ok (.dup, 1) := by decide +kernel
theorem dX2_take_28 : decode cX2_take 28 = .ok (.getfield 21, 3) := by decide +kernel
theorem dX2_take_31 : decode cX2_take 31 = .ok (.iconst 1, 1) := by decide +kernel
theorem dX2_take_32 : decode cX2_take 32 = .ok (.iadd, 1) := by decide +kernel
theorem dX2_take_33 : decode cX2_take 33 = .ok (.putfield 21, 3) := by decide +kernel
theorem dX2_take_36 : decode cX2_take 36 = .ok (.goto (-36), 3) := by decide +kernel
theorem dX2_take_39 : decode cX2_take 39 = .ok (.aload_n 0, 1) := by decide +kernel
theorem dX2_take_40 : decode cX2_take 40 = .ok (.aload_n 0, 1) := by decide +kernel
theorem dX2_take_41 : decode cX2_take 41 = .ok (.getfield 21, 3) := by decide +kernel
theorem dX2_take_44 : decode cX2_take 44 = .ok (.putfield 27, 3) := by decide +kernel
theorem dX2_take_47 : decode cX2_take 47 = .ok (.aload_n 0, 1) := by decide +kernel
theorem dX2_take_48 : decode cX2_take 48 = .ok (.getfield 21, 3) := by decide +kernel
theorem dX2_take_51 : decode cX2_take 51 = .ok (.aload_n 0, 1) := by decide +kernel
theorem dX2_take_52 : decode cX2_take 52 = .ok (.getfield 18, 3) := by decide +kernel
theorem dX2_take_55 : decode cX2_take 55 = .ok (.if_icmp .lt 11, 3) := by decide +kernel
theorem dX2_take_58 : decode cX2_take 58 = .ok (.aload_n 0, 1) := by decide +kernel
theorem dX2_take_59 : decode cX2_take 59 = .ok (.iconst 0, 1) := by decide +kernel
theorem dX2_take_60 : decode cX2_take 60 = .ok (.putfield 24, 3) := by decide +kernel
theorem dX2_take_63 : decode cX2_take 63 = .ok (.goto 80, 3) := by decide +kernel
theorem dX2_take_66 : decode cX2_take 66 = .ok (.aload_n 0, 1) := by decide +kernel
theorem dX2_take_67 : decode cX2_take 67 = .ok (.getfield 39, 3) := by decide +kernel
theorem dX2_take_70 : decode cX2_take 70 = .ok (.aload_n 0, 1) := by decide +kernel
theorem dX2_take_71 : decode cX2_take 71 = .ok (.getfield 21, 3) := by decide +kernel
theorem dX2_take_74 : decode cX2_take 74 = .ok (.iaload, 1) := by decide +kernel
theorem dX2_take_75 : decode cX2_take 75 = .ok (.invokestatic 158, 3) := by decide +kernel
theorem dX2_take_78 : decode cX2_take 78 = .ok (.ifCond .eq 10, 3) := by decide +kernel
theorem dX2_take_81 : decode cX2_take 81 = .ok (.aload_n 0, 1) := by decide +kernel
theorem dX2_take_82 : decode cX2_take 82 = .ok (.invokevirtual 161, 3) := by decide +kernel
theorem dX2_take_85 : decode cX2_take 85 = .ok (.goto 58, 3) := by decide +kernel
theorem dX2_take_88 : decode cX2_take 88 = .ok (.aload_n 0, 1) := by decide +kernel
theorem dX2_take_89 : decode cX2_take 89 = .ok (.getfield 39, 3) := by decide +kernel
theorem dX2_take_92 : decode cX2_take 92 = .ok (.aload_n 0, 1) := by decide +kernel
theorem dX2_take_93 : decode cX2_take 93 = .ok (.getfield 21, 3) := by decide +kernel
theorem dX2_take_96 : decode cX2_take 96 = .ok (.iaload, 1) := by decide +kernel
theorem dX2_take_97 : decode cX2_take 97 = .ok (.invokestatic 164, 3) := by decide +kernel
theorem dX2_take_100 : decode cX2_take 100 = .ok (.ifCond .eq 10, 3) := by decide +kernel
theorem dX2_take_103 : decode cX2_take 103 = .ok (.aload_n 0, 1) := by decide +kernel
theorem dX2_take_104 : decode cX2_take 104 = .ok (.invokevirtual 167, 3) := by decide +kernel
theorem dX2_take_107 : decode cX2_take 107 = .ok (.goto 36, 3) := by decide +kernel
theorem dX2_take_110 : decode cX2_take 110 = .ok (.aload_n 0, 1) := by decide +kernel
theorem dX2_take_111 : decode cX2_take 111 = .ok (.aload_n 0, 1) := by decide +kernel
theorem dX2_take_112 : decode cX2_take 112 = .ok (.getfield 39, 3) := by decide +kernel
theorem dX2_take_115 : decode cX2_take 115 = .ok (.aload_n 0, 1) := by decide +kernel
theorem dX2_take_116 : decode cX2_take 116 = .ok (.getfield 21, 3) := by decide +kernel
theorem dX2_take_119 : decode cX2_take 119 = .ok (.iaload, 1) := by decide +kernel
theorem dX2_take_120 : decode cX2_take 120 = .ok (.bipush 59, 2) := by decide +kernel
theorem dX2_take_122 : decode cX2_take 122 = .ok (.if_icmp .ne 7, 3) := by decide +kernel
theorem dX2_take_125 : decode cX2_take 125 = .ok (.iconst 4, 1) := by decide +kernel
theorem dX2_take_126 : decode cX2_take 126 = .ok (.goto 4, 3) := by decide +kernel
theorem dX2_take_129 : decode cX2_take 129 = .ok (.iconst 5, 1) := by decide +kernel
theorem dX2_take_130 : decode cX2_take 130 = .ok (.putfield 24, 3) := by decide +kernel
theorem dX2_take_133 : decode cX2_take 133 = .ok (.aload_n 0, 1) := by decide +kernel
theorem dX2_take_134 : decode cX2_take 134 = .ok (.dup, 1) := by decide +kernel
theorem dX2_take_135 : decode cX2_take 135 = .ok (.getfield 21, 3) := by decide +kernel
theorem dX2_take_138 : decode cX2_take 138 = .ok (.iconst 1, 1) := by decide +kernel
theorem dX2_take_139 : decode cX2_take 139 = .ok (.iadd, 1) := by decide +kernel
theorem dX2_take_140 : decode cX2_take 140 = .ok (.putfield 21, 3) := by decide +kernel
theorem dX2_take_143 : decode cX2_take 143 = .ok (.return_, 1) := by decide +kernel
def Re_take_130 (s0 : Int32) (d : Mem) : Option (Unit × Mem) :=
  bnd (wrM d 0 2 5 s0) fun d1 =>
  bnd (wrM d1 0 2 4 ((d1 0 2 4) + (1 : Int32))) fun d2 =>
  some ((), d2)
def Re_take_39 (d : Mem) : Option (Unit × Mem) :=
  bnd (wrM d 0 2 6 (d 0 2 4)) fun d3 =>
  if (d3 0 2 4) < (d3 0 2 3) then
    (if inb (d3 0 2 4) 700 then
    bp (Re_isLetter (d3 0 1 (ix (d3 0 2 4)))) fun r4 =>
    if r4 = 0 then
      (if inb (d3 0 2 4) 700 then
      bp (Re_isDigit (d3 0 1 (ix (d3 0 2 4)))) fun r5 =>
      if r5 = 0 then
        (if inb (d3 0 2 4) 700 then
        if (d3 0 1 (ix (d3 0 2 4))) = (59 : Int32) then
          (Re_take_130 (4 : Int32) d3)
        else
          (Re_take_130 (5 : Int32) d3)
        else none)
      else
        (bd (Re_takeDigits d3) fun r6 d7 =>
        some ((), d7))
      else none)
    else
      (bd (Re_takeWord d3) fun r8 d9 =>
      some ((), d9))
    else none)
  else
    (bnd (wrM d3 0 2 5 (0 : Int32)) fun d10 =>
    some ((), d10))
def Re_take_0 : Nat → Mem → Option (Unit × Mem)
  | 0, _ => none
  | n + 1, d =>
    if (d 0 2 3) ≤ (d 0 2 4) then
      (Re_take_39 d)
    else
      (if inb (d 0 2 4) 700 then
      bp (Re_isBlank (d 0 1 (ix (d 0 2 4)))) fun r11 =>
      if r11 = 0 then
        (Re_take_39 d)
      else
        (bnd (wrM d 0 2 4 ((d 0 2 4) + (1 : Int32))) fun d12 =>
        Re_take_0 n d12)
      else none)
def Re_take (d : Mem) : Option (Unit × Mem) :=
  Re_take_0 FU d
theorem y_X2_take : YV yX2_take cX2_take 1 none 0 := ⟨q491, q1, q492, q145, by decide +kernel, by decide +kernel, by decide +kernel, by decide +kernel⟩
theorem r_Re_take_130 {C : Cxt} {G : Geo} (hC : Cx C cX2_take 1 "FrameHeirs$Reader" none rm_X2_take G) (hcl : GCl G) (hX : LXx G) (hT : LSt G) (s0 : Int32) (d : Mem) : Rz C 1 G gm (poM avV gm) 130 [(0, .inr (0, 2))] [.inl (.int s0), .inr (0, 2)] d (Re_take_130 s0 d) := by
  unfold Re_take_130
  refine zg_puti (pc := 130) hC (hX 2 rfl) f_2_5 q249 dX2_take_130 (fun d1 => ?_)
  refine z_aload_n (pc := 133) hC 0 rfl 0 rfl dX2_take_133 ?_
  refine z_dup (pc := 134) hC rfl dX2_take_134 ?_
  refine zg_geti (pc := 135) hC (hX 2 rfl) f_2_4 q248 dX2_take_135 ?_
  refine z_iconst (pc := 138) hC (1 : Int32) rfl dX2_take_138 ?_
  refine z_iadd (pc := 139) hC dX2_take_139 ?_
  refine zg_puti (pc := 140) hC (hX 2 rfl) f_2_4 q248 dX2_take_140 (fun d2 => ?_)
  exact z_vret (pc := 143) hC rfl dX2_take_143
theorem r_Re_take_39 {C : Cxt} {G : Geo} (hC : Cx C cX2_take 1 "FrameHeirs$Reader" none rm_X2_take G) (hcl : GCl G) (hX : LXx G) (hT : LSt G) (d : Mem) : Rz C 1 G gm (poM avV gm) 39 [(0, .inr (0, 2))] [] d (Re_take_39 d) := by
  unfold Re_take_39
  refine z_aload_n (pc := 39) hC 0 rfl 0 rfl dX2_take_39 ?_
  refine z_aload_n (pc := 40) hC 0 rfl 0 rfl dX2_take_40 ?_
  refine zg_geti (pc := 41) hC (hX 2 rfl) f_2_4 q248 dX2_take_41 ?_
  refine zg_puti (pc := 44) hC (hX 2 rfl) f_2_6 q250 dX2_take_44 (fun d3 => ?_)
  refine z_aload_n (pc := 47) hC 0 rfl 0 rfl dX2_take_47 ?_
  refine zg_geti (pc := 48) hC (hX 2 rfl) f_2_4 q248 dX2_take_48 ?_
  refine z_aload_n (pc := 51) hC 0 rfl 0 rfl dX2_take_51 ?_
  refine zg_geti (pc := 52) hC (hX 2 rfl) f_2_3 q247 dX2_take_52 ?_
  refine z_icmp_lt (pc := 55) hC 66 rfl dX2_take_55 ?_ ?_
  · refine z_aload_n (pc := 66) hC 0 rfl 0 rfl dX2_take_66 ?_
    refine z_getc (pc := 67) hC (hX 2 rfl) f_2_2 q246 dX2_take_67 ?_
    refine z_aload_n (pc := 70) hC 0 rfl 0 rfl dX2_take_70 ?_
    refine zg_geti (pc := 71) hC (hX 2 rfl) f_2_4 q248 dX2_take_71 ?_
    refine zg_iald (pc := 74) hC (hX 1 rfl) rfl dX2_take_74 ?_
    refine z_piS (pc := 75) (st := []) hC y_X2_isLetter q496 [.inl (.int (d3 0 1 (ix (d3 0 2 4))))] rfl (c_X2_isLetter hC.2.2.2.2.2.2.1) rfl ⟨rfl, rfl, (Nat.le_of_ble_eq_true rfl), (Nat.le_of_ble_eq_true rfl)⟩ (Nat.le_of_ble_eq_true rfl) dX2_take_75 (fun r4 => ?_)
    refine z_if_eq (pc := 78) hC 88 rfl dX2_take_78 ?_ ?_
    · refine z_aload_n (pc := 88) hC 0 rfl 0 rfl dX2_take_88 ?_
      refine z_getc (pc := 89) hC (hX 2 rfl) f_2_2 q246 dX2_take_89 ?_
      refine z_aload_n (pc := 92) hC 0 rfl 0 rfl dX2_take_92 ?_
      refine zg_geti (pc := 93) hC (hX 2 rfl) f_2_4 q248 dX2_take_93 ?_
      refine zg_iald (pc := 96) hC (hX 1 rfl) rfl dX2_take_96 ?_
      refine z_piS (pc := 97) (st := []) hC y_X2_isDigit q505 [.inl (.int (d3 0 1 (ix (d3 0 2 4))))] rfl (c_X2_isDigit hC.2.2.2.2.2.2.1) rfl ⟨rfl, rfl, (Nat.le_of_ble_eq_true rfl), (Nat.le_of_ble_eq_true rfl)⟩ (Nat.le_of_ble_eq_true rfl) dX2_take_97 (fun r5 => ?_)
      refine z_if_eq (pc := 100) hC 110 rfl dX2_take_100 ?_ ?_
      · refine z_aload_n (pc := 110) hC 0 rfl 0 rfl dX2_take_110 ?_
        refine z_aload_n (pc := 111) hC 0 rfl 0 rfl dX2_take_111 ?_
        refine z_getc (pc := 112) hC (hX 2 rfl) f_2_2 q246 dX2_take_112 ?_
        refine z_aload_n (pc := 115) hC 0 rfl 0 rfl dX2_take_115 ?_
        refine zg_geti (pc := 116) hC (hX 2 rfl) f_2_4 q248 dX2_take_116 ?_
        refine zg_iald (pc := 119) hC (hX 1 rfl) rfl dX2_take_119 ?_
        refine z_bipush (pc := 120) hC (59 : Int32) rfl dX2_take_120 ?_
        refine z_icmp_ne (pc := 122) hC 129 rfl dX2_take_122 ?_ ?_
        · refine z_iconst (pc := 129) hC (5 : Int32) rfl dX2_take_129 ?_
          exact z_sub [0] rfl (r_Re_take_130 hC hcl hX hT (5 : Int32) d3)
        · refine z_iconst (pc := 125) hC (4 : Int32) rfl dX2_take_125 ?_
          refine z_goto (pc := 126) hC 130 rfl dX2_take_126 ?_
          exact z_sub [0] rfl (r_Re_take_130 hC hcl hX hT (4 : Int32) d3)
      · refine z_aload_n (pc := 103) hC 0 rfl 0 rfl dX2_take_103 ?_
        refine z_cvV (pc := 104) (st := []) hC y_X2_takeDigits q508 [] rfl (hX 2 rfl) rfl rfl (c_X2_takeDigits hC.2.2.2.2.2.2.1 hcl hX hT) rfl ⟨rfl, rfl, (Nat.le_of_ble_eq_true rfl), (Nat.le_of_ble_eq_true rfl)⟩ (Nat.le_of_ble_eq_true rfl) dX2_take_104 (fun r6 d7 => ?_)
        refine z_goto (pc := 107) hC 143 rfl dX2_take_107 ?_
        exact z_vret (pc := 143) hC rfl dX2_take_143
    · refine z_aload_n (pc := 81) hC 0 rfl 0 rfl dX2_take_81 ?_
      refine z_cvV (pc := 82) (st := []) hC y_X2_takeWord q499 [] rfl (hX 2 rfl) rfl rfl (c_X2_takeWord hC.2.2.2.2.2.2.1 hcl hX hT) rfl ⟨rfl, rfl, (Nat.le_of_ble_eq_true rfl), (Nat.le_of_ble_eq_true rfl)⟩ (Nat.le_of_ble_eq_true rfl) dX2_take_82 (fun r8 d9 => ?_)
      refine z_goto (pc := 85) hC 143 rfl dX2_take_85 ?_
      exact z_vret (pc := 143) hC rfl dX2_take_143
  · refine z_aload_n (pc := 58) hC 0 rfl 0 rfl dX2_take_58 ?_
    refine z_iconst (pc := 59) hC (0 : Int32) rfl dX2_take_59 ?_
    refine zg_puti (pc := 60) hC (hX 2 rfl) f_2_5 q249 dX2_take_60 (fun d10 => ?_)
    refine z_goto (pc := 63) hC 143 rfl dX2_take_63 ?_
    exact z_vret (pc := 143) hC rfl dX2_take_143
theorem r_Re_take_0 {C : Cxt} {G : Geo} (hC : Cx C cX2_take 1 "FrameHeirs$Reader" none rm_X2_take G) (hcl : GCl G) (hX : LXx G) (hT : LSt G) : ∀ (n : Nat) (d : Mem), Rz C 1 G gm (poM avV gm) 0 [(0, .inr (0, 2))] [] d (Re_take_0 n d) := by
  intro n
  induction n with
  | zero => intros; exact z_none
  | succ n ih =>
    intro d
    rw [Re_take_0]
    refine z_aload_n (pc := 0) hC 0 rfl 0 rfl dX2_take_0 ?_
    refine zg_geti (pc := 1) hC (hX 2 rfl) f_2_4 q248 dX2_take_1 ?_
    refine z_aload_n (pc := 4) hC 0 rfl 0 rfl dX2_take_4 ?_
    refine zg_geti (pc := 5) hC (hX 2 rfl) f_2_3 q247 dX2_take_5 ?_
    refine z_icmp_ge (pc := 8) hC 39 rfl dX2_take_8 ?_ ?_
    · exact z_sub [0] rfl (r_Re_take_39 hC hcl hX hT d)
    · refine z_aload_n (pc := 11) hC 0 rfl 0 rfl dX2_take_11 ?_
      refine z_getc (pc := 12) hC (hX 2 rfl) f_2_2 q246 dX2_take_12 ?_
      refine z_aload_n (pc := 15) hC 0 rfl 0 rfl dX2_take_15 ?_
      refine zg_geti (pc := 16) hC (hX 2 rfl) f_2_4 q248 dX2_take_16 ?_
      refine zg_iald (pc := 19) hC (hX 1 rfl) rfl dX2_take_19 ?_
      refine z_piS (pc := 20) (st := []) hC y_X2_isBlank q493 [.inl (.int (d 0 1 (ix (d 0 2 4))))] rfl (c_X2_isBlank hC.2.2.2.2.2.2.1) rfl ⟨rfl, rfl, (Nat.le_of_ble_eq_true rfl), (Nat.le_of_ble_eq_true rfl)⟩ (Nat.le_of_ble_eq_true rfl) dX2_take_20 (fun r11 => ?_)
      refine z_if_eq (pc := 23) hC 39 rfl dX2_take_23 ?_ ?_
      · exact z_sub [0] rfl (r_Re_take_39 hC hcl hX hT d)
      · refine z_aload_n (pc := 26) hC 0 rfl 0 rfl dX2_take_26 ?_
        refine z_dup (pc := 27) hC rfl dX2_take_27 ?_
        refine zg_geti (pc := 28) hC (hX 2 rfl) f_2_4 q248 dX2_take_28 ?_
        refine z_iconst (pc := 31) hC (1 : Int32) rfl dX2_take_31 ?_
        refine z_iadd (pc := 32) hC dX2_take_32 ?_
        refine zg_puti (pc := 33) hC (hX 2 rfl) f_2_4 q248 dX2_take_33 (fun d12 => ?_)
        refine z_goto (pc := 36) hC 0 rfl dX2_take_36 ?_
        exact z_sub [0] rfl (ih d12)
theorem r_Re_take {C : Cxt} {G : Geo} (hC : Cx C cX2_take 1 "FrameHeirs$Reader" none rm_X2_take G) (hcl : GCl G) (hX : LXx G) (hT : LSt G) (d : Mem) : Rz C 1 G gm (poM avV gm) 0 [(0, .inr (0, 2))] [] d (Re_take d) := by
  unfold Re_take
  exact z_sub [0] rfl (r_Re_take_0 hC hcl hX hT FU d)
theorem c_X2_take {G : Geo} (hG : GOk G) (hcl : GCl G) (hX : LXx G) (hT : LSt G) {d : Mem} (l : Launch) (r : Unit) (d1 : Mem) (h : Re_take d = some (r, d1)) : Mt l yX2_take cX2_take 1 none rm_X2_take G [.inr (0, 2)] (gm d) (avV r) (gm d1) :=
  mt_of (mem := gm) (po := poM avV gm) (x0 := d) (t := (r, d1)) rfl hG [.inr (0, 2)] (Nat.le_of_ble_eq_true rfl) rfl (fun C hC => r_Re_take hC hcl hX hT d) h
-- FrameHeirs$Reader.hasMore()Z
abbrev rm_X2_hasMore : Room := { frames := 3, cells := 0, slots := 0, locals := 63 }
theorem dX2_hasMore_0 : decode cX2_hasMore 0 = .ok (.aload_n 0, 1) := by decide +kernel
theorem dX2_hasMore_1 : decode cX2_hasMore 1 = .ok (.invokevirtual 58, 3) := by decide +kernel
theorem dX2_hasMore_4 : decode cX2_hasMore 4 = .ok (.aload_n 0, 1) := by decide +kernel
theorem dX2_hasMore_5 : decode cX2_hasMore 5 = .ok (.getfield 24, 3) := by decide +kernel
theorem dX2_hasMore_8 : decode cX2_hasMore 8 = .ok (.ifCond .eq 7, 3) := by decide +kernel
theorem dX2_hasMore_11 : decode cX2_hasMore 11 = .ok (.iconst 1, 1) := by decide +kernel
theorem dX2_hasMore_12 : decode cX2_hasMore 12 = .ok (.goto 4, 3) := by decide +kernel
theorem dX2_hasMore_15 : decode cX2_hasMore 15 = .ok (.iconst 0, 1) := by decide +kernel
theorem dX2_hasMore_16 : decode cX2_hasMore 16 = .ok (.ireturn, 1) := by decide +kernel
def Re_hasMore (d : Mem) : Option (Int32 × Mem) :=
  bd (Re_take d) fun r1 d2 =>
  if (d2 0 2 5) = 0 then
    (some ((0 : Int32), d2))
  else
    (some ((1 : Int32), d2))
theorem y_X2_hasMore : YV yX2_hasMore cX2_hasMore 1 (some .boolean) 0 := ⟨q486, q487, q488, q145, by decide +kernel, by decide +kernel, by decide +kernel, by decide +kernel⟩
theorem r_Re_hasMore {C : Cxt} {G : Geo} (hC : Cx C cX2_hasMore 1 "FrameHeirs$Reader" (some .boolean) rm_X2_hasMore G) (hcl : GCl G) (hX : LXx G) (hT : LSt G) (d : Mem) : Rz C 1 G gm (poM avI gm) 0 [(0, .inr (0, 2))] [] d (Re_hasMore d) := by
  unfold Re_hasMore
  refine z_aload_n (pc := 0) hC 0 rfl 0 rfl dX2_hasMore_0 ?_
  refine z_cvV (pc := 1) (st := []) hC y_X2_take q489 [] rfl (hX 2 rfl) rfl rfl (c_X2_take hC.2.2.2.2.2.2.1 hcl hX hT) rfl ⟨rfl, rfl, (Nat.le_of_ble_eq_true rfl), (Nat.le_of_ble_eq_true rfl)⟩ (Nat.le_of_ble_eq_true rfl) dX2_hasMore_1 (fun r1 d2 => ?_)
  refine z_aload_n (pc := 4) hC 0 rfl 0 rfl dX2_hasMore_4 ?_
  refine zg_geti (pc := 5) hC (hX 2 rfl) f_2_5 q249 dX2_hasMore_5 ?_
  refine z_if_eq (pc := 8) hC 15 rfl dX2_hasMore_8 ?_ ?_
  · refine z_iconst (pc := 15) hC (0 : Int32) rfl dX2_hasMore_15 ?_
    exact z_zret (pc := 16) hC rfl rfl dX2_hasMore_16
  · refine z_iconst (pc := 11) hC (1 : Int32) rfl dX2_hasMore_11 ?_
    refine z_goto (pc := 12) hC 16 rfl dX2_hasMore_12 ?_
    exact z_zret (pc := 16) hC rfl rfl dX2_hasMore_16
theorem c_X2_hasMore {G : Geo} (hG : GOk G) (hcl : GCl G) (hX : LXx G) (hT : LSt G) {d : Mem} (l : Launch) (r : Int32) (d1 : Mem) (h : Re_hasMore d = some (r, d1)) : Mt l yX2_hasMore cX2_hasMore 1 (some .boolean) rm_X2_hasMore G [.inr (0, 2)] (gm d) (avI r) (gm d1) :=
  mt_of (mem := gm) (po := poM avI gm) (x0 := d) (t := (r, d1)) rfl hG [.inr (0, 2)] (Nat.le_of_ble_eq_true rfl) rfl (fun C hC => r_Re_hasMore hC hcl hX hT d) h
-- FrameHeirs$Reader.fail(I)Z
abbrev rm_X2_fail : Room := { frames := 0, cells := 0, slots := 0, locals := 0 }
theorem dX2_fail_0 : decode cX2_fail 0 = .ok (.aload_n 0, 1) := by decide +kernel
theorem dX2_fail_1 : decode cX2_fail 1 = .ok (.iload_n 1, 1) := by decide +kernel
theorem dX2_fail_2 : decode cX2_fail 2 = .ok (.putfield 9, 3) := by decide +kernel
theorem dX2_fail_5 : decode cX2_fail 5 = .ok (.aload_n 0, 1) := by decide +kernel
theorem dX2_fail_6 : decode cX2_fail 6 = .ok (.aload_n 0, 1) := by decide +kernel
theorem dX2_fail_7 : decode cX2_fail 7 = .ok (.getfield 27, 3) := by decide +kernel
theorem dX2_fail_10 : decode cX2_fail 10 = .ok (.putfield 15, 3) := by decide +kernel
theorem dX2_fail_13 : decode cX2_fail 13 = .ok (.iconst 0, 1) := by decide +kernel
theorem dX2_fail_14 : decode cX2_fail 14 = .ok (.ireturn, 1) := by decide +kernel
def Re_fail (d : Mem) (a1 : Int32) : Option (Int32 × Mem) :=
  bnd (wrM d 0 2 0 a1) fun d1 =>
  bnd (wrM d1 0 2 1 (d1 0 2 6)) fun d2 =>
  some ((0 : Int32), d2)
theorem y_X2_fail : YV yX2_fail cX2_fail 2 (some .boolean) 1 := ⟨q519, q4, q520, q145, by decide +kernel, by decide +kernel, by decide +kernel, by decide +kernel⟩
theorem r_Re_fail {C : Cxt} {G : Geo} (hC : Cx C cX2_fail 2 "FrameHeirs$Reader" (some .boolean) rm_X2_fail G) (hcl : GCl G) (hX : LXx G) (hT : LSt G) (d : Mem) (a1 : Int32) : Rz C 2 G gm (poM avI gm) 0 [(0, .inr (0, 2)), (1, .inl (.int a1))] [] d (Re_fail d a1) := by
  unfold Re_fail
  refine z_aload_n (pc := 0) hC 0 rfl 0 rfl dX2_fail_0 ?_
  refine z_iload_n (pc := 1) hC 1 rfl 1 rfl dX2_fail_1 ?_
  refine zg_puti (pc := 2) hC (hX 2 rfl) f_2_0 q242 dX2_fail_2 (fun d1 => ?_)
  refine z_aload_n (pc := 5) hC 0 rfl 0 rfl dX2_fail_5 ?_
  refine z_aload_n (pc := 6) hC 0 rfl 0 rfl dX2_fail_6 ?_
  refine zg_geti (pc := 7) hC (hX 2 rfl) f_2_6 q250 dX2_fail_7 ?_
  refine zg_puti (pc := 10) hC (hX 2 rfl) f_2_1 q244 dX2_fail_10 (fun d2 => ?_)
  refine z_iconst (pc := 13) hC (0 : Int32) rfl dX2_fail_13 ?_
  exact z_zret (pc := 14) hC rfl rfl dX2_fail_14
theorem c_X2_fail {G : Geo} (hG : GOk G) (hcl : GCl G) (hX : LXx G) (hT : LSt G) {d : Mem} {a1 : Int32} (l : Launch) (r : Int32) (d1 : Mem) (h : Re_fail d a1 = some (r, d1)) : Mt l yX2_fail cX2_fail 2 (some .boolean) rm_X2_fail G [.inr (0, 2), .inl (.int a1)] (gm d) (avI r) (gm d1) :=
  mt_of (mem := gm) (po := poM avI gm) (x0 := d) (t := (r, d1)) rfl hG [.inr (0, 2), .inl (.int a1)] (Nat.le_of_ble_eq_true rfl) rfl (fun C hC => r_Re_fail hC hcl hX hT d a1) h
-- FrameHeirs$Reader.readSpace()Z
abbrev rm_X2_readSpace : Room := { frames := 3, cells := 0, slots := 0, locals := 63 }
theorem dX2_readSpace_0 : decode cX2_readSpace 0 = .ok (.aload_n 0, 1) := by decide +kernel
theorem dX2_readSpace_1 : decode cX2_readSpace 1 = .ok (.getfield 43, 3) := by decide +kernel
theorem dX2_readSpace_4 : decode cX2_readSpace 4 = .ok (.getfield 84, 3) := by decide +kernel
theorem dX2_readSpace_7 : decode cX2_readSpace 7 = .ok (.bipush 6, 2) := by decide +kernel
theorem dX2_readSpace_9 : decode cX2_readSpace 9 = .ok (.if_icmp .lt 9, 3) := by decide +kernel
theorem dX2_readSpace_12 : decode cX2_readSpace 12 = .ok (.aload_n 0, 1) := by decide +kernel
theorem dX2_readSpace_13 : decode cX2_readSpace 13 = .ok (.iconst 2, 1) := by decide +kernel
theorem dX2_readSpace_14 : decode cX2_readSpace 14 = .ok (.invokevirtual 61, 3) := by decide +kernel
theorem dX2_readSpace_17 : decode cX2_readSpace 17 = .ok (.ireturn, 1) := by decide +kernel
theorem dX2_readSpace_18 : decode cX2_readSpace 18 = .ok (.aload_n 0, 1) := by decide +kernel
theorem dX2_readSpace_19 : decode cX2_readSpace 19 = .ok (.invokevirtual 58, 3) := by decide +kernel
theorem dX2_readSpace_22 : decode cX2_readSpace 22 = .ok (.aload_n 0, 1) := by decide +kernel
theorem dX2_readSpace_23 : decode cX2_readSpace 23 = .ok (.getfield 24, 3) := by decide +kernel
theorem dX2_readSpace_26 : decode cX2_readSpace 26 = .ok (.iconst 1, 1) := by decide +kernel
theorem dX2_readSpace_27 : decode cX2_readSpace 27 = .ok (.if_icmp .eq 9, 3) := by decide +kernel
theorem dX2_readSpace_30 : decode cX2_readSpace 30 = .ok (.aload_n 0, 1) := by decide +kernel
theorem dX2_readSpace_31 : decode cX2_readSpace 31 = .ok (.iconst 1, 1) := by decide +kernel
theorem dX2_readSpace_32 : decode cX2_readSpace 32 = .ok (.invokevirtual 61, 3) := by decide +kernel
theorem dX2_readSpace_35 : decode cX2_readSpace 35 = .ok (.ireturn, 1) := by decide +kernel
theorem dX2_readSpace_36 : decode cX2_readSpace 36 = .ok (.aload_n 0, 1) := by decide +kernel
theorem dX2_readSpace_37 : decode cX2_readSpace 37 = .ok (.getfield 43, 3) := by decide +kernel
theorem dX2_readSpace_40 : decode cX2_readSpace 40 = .ok (.aload_n 0, 1) := by decide +kernel
theorem dX2_readSpace_41 : decode cX2_readSpace 41 = .ok (.getfield 30, 3) := by decide +kernel
theorem dX2_readSpace_44 : decode cX2_readSpace 44 = .ok (.invokevirtual 87, 3) := by decide +kernel
theorem dX2_readSpace_47 : decode cX2_readSpace 47 = .ok (.ifCond .lt 9, 3) := by decide +kernel
theorem dX2_readSpace_50 : decode cX2_readSpace 50 = .ok (.aload_n 0, 1) := by decide +kernel
theorem dX2_readSpace_51 : decode cX2_readSpace 51 = .ok (.iconst 3, 1) := by decide +kernel
theorem dX2_readSpace_52 : decode cX2_readSpace 52 = .ok (.invokevirtual 61, 3) := by decide +kernel
theorem dX2_readSpace_55 : decode cX2_readSpace 55 = .ok (.ireturn, 1) := by decide +kernel
theorem dX2_readSpace_56 : decode cX2_readSpace 56 = .ok (.aload_n 0, 1) := by decide +kernel
theorem dX2_readSpace_57 : decode cX2_readSpace 57 = .ok (.getfield 43, 3) := by decide +kernel
theorem dX2_readSpace_60 : decode cX2_readSpace 60 = .ok (.aload_n 0, 1) := by decide +kernel
theorem dX2_readSpace_61 : decode cX2_readSpace 61 = .ok (.getfield 30, 3) := by decide +kernel
theorem dX2_readSpace_64 : decode cX2_readSpace 64 = .ok (.invokevirtual 91, 3) := by decide +kernel
theorem dX2_readSpace_67 : decode cX2_readSpace 67 = .ok (.iconst 1, 1) := by decide +kernel
theorem dX2_readSpace_68 : decode cX2_readSpace 68 = .ok (.ireturn, 1) := by decide +kernel
def Re_readSpace (d : Mem) : Option (Int32 × Mem) :=
  gref (d 0 2 10) fun u1 =>
  if (d u1 4 5) < (6 : Int32) then
    (bd (Re_take d) fun r2 d3 =>
    if (d3 0 2 5) = (1 : Int32) then
      (gref (d3 0 2 10) fun u4 =>
      bp (Sc_spaceNamed (d3 u4) (d3 0 2 7)) fun r5 =>
      if r5 < 0 then
        (gref (d3 0 2 10) fun u6 =>
        bd (lft d3 u6 (Sc_addSpace (d3 u6) (d3 0 2 7))) fun r7 d8 =>
        some ((1 : Int32), d8))
      else
        (bd (Re_fail d3 (3 : Int32)) fun r9 d10 =>
        if r9 = 0 ∨ r9 = 1 then some (r9, d10) else none))
    else
      (bd (Re_fail d3 (1 : Int32)) fun r11 d12 =>
      if r11 = 0 ∨ r11 = 1 then some (r11, d12) else none))
  else
    (bd (Re_fail d (2 : Int32)) fun r13 d14 =>
    if r13 = 0 ∨ r13 = 1 then some (r13, d14) else none)
theorem y_X2_readSpace : YV yX2_readSpace cX2_readSpace 1 (some .boolean) 0 := ⟨q523, q5, q524, q145, by decide +kernel, by decide +kernel, by decide +kernel, by decide +kernel⟩
theorem r_Re_readSpace {C : Cxt} {G : Geo} (hC : Cx C cX2_readSpace 1 "FrameHeirs$Reader" (some .boolean) rm_X2_readSpace G) (hcl : GCl G) (hX : LXx G) (hT : LSt G) (d : Mem) : Rz C 1 G gm (poM avI gm) 0 [(0, .inr (0, 2))] [] d (Re_readSpace d) := by
  unfold Re_readSpace
  refine z_aload_n (pc := 0) hC 0 rfl 0 rfl dX2_readSpace_0 ?_
  refine zg_getS (pc := 1) hC hcl (hX 2 rfl) f_2_10 q254 dX2_readSpace_1 (fun u1 hu1 gu1 => ?_)
  refine zg_geti (pc := 4) hC (hu1 4 rfl) f_4_5 q188 dX2_readSpace_4 ?_
  refine z_bipush (pc := 7) hC (6 : Int32) rfl dX2_readSpace_7 ?_
  refine z_icmp_lt (pc := 9) hC 18 rfl dX2_readSpace_9 ?_ ?_
  · refine z_aload_n (pc := 18) hC 0 rfl 0 rfl dX2_readSpace_18 ?_
    refine z_cvV (pc := 19) (st := []) hC y_X2_take q489 [] rfl (hX 2 rfl) rfl rfl (c_X2_take hC.2.2.2.2.2.2.1 hcl hX hT) rfl ⟨rfl, rfl, (Nat.le_of_ble_eq_true rfl), (Nat.le_of_ble_eq_true rfl)⟩ (Nat.le_of_ble_eq_true rfl) dX2_readSpace_19 (fun r2 d3 => ?_)
    refine z_aload_n (pc := 22) hC 0 rfl 0 rfl dX2_readSpace_22 ?_
    refine zg_geti (pc := 23) hC (hX 2 rfl) f_2_5 q249 dX2_readSpace_23 ?_
    refine z_iconst (pc := 26) hC (1 : Int32) rfl dX2_readSpace_26 ?_
    refine z_icmp_eq (pc := 27) hC 36 rfl dX2_readSpace_27 ?_ ?_
    · refine z_aload_n (pc := 36) hC 0 rfl 0 rfl dX2_readSpace_36 ?_
      refine zg_getS (pc := 37) hC hcl (hX 2 rfl) f_2_10 q254 dX2_readSpace_37 (fun u4 hu4 gu4 => ?_)
      refine z_aload_n (pc := 40) hC 0 rfl 0 rfl dX2_readSpace_40 ?_
      refine zg_geti (pc := 41) hC (hX 2 rfl) f_2_7 q251 dX2_readSpace_41 ?_
      refine z_piV (pc := 44) (st := []) hC y_X3_spaceNamed q525 [.inl (.int (d3 0 2 7))] rfl (hu4 4 rfl) rfl rfl (lft_p (c_X3_spaceNamed hC.2.2.2.2.2.2.1 hu4)) rfl ⟨rfl, rfl, (Nat.le_of_ble_eq_true rfl), (Nat.le_of_ble_eq_true rfl)⟩ (Nat.le_of_ble_eq_true rfl) dX2_readSpace_44 (fun r5 => ?_)
      refine z_if_lt (pc := 47) hC 56 rfl dX2_readSpace_47 ?_ ?_
      · refine z_aload_n (pc := 56) hC 0 rfl 0 rfl dX2_readSpace_56 ?_
        refine zg_getS (pc := 57) hC hcl (hX 2 rfl) f_2_10 q254 dX2_readSpace_57 (fun u6 hu6 gu6 => ?_)
        refine z_aload_n (pc := 60) hC 0 rfl 0 rfl dX2_readSpace_60 ?_
        refine zg_geti (pc := 61) hC (hX 2 rfl) f_2_7 q251 dX2_readSpace_61 ?_
        refine z_cvV (pc := 64) (st := []) hC y_X3_addSpace q529 [.inl (.int (d3 0 2 7))] rfl (hu6 4 rfl) rfl rfl (lft_m (c_X3_addSpace hC.2.2.2.2.2.2.1 hu6)) rfl ⟨rfl, rfl, (Nat.le_of_ble_eq_true rfl), (Nat.le_of_ble_eq_true rfl)⟩ (Nat.le_of_ble_eq_true rfl) dX2_readSpace_64 (fun r7 d8 => ?_)
        refine z_iconst (pc := 67) hC (1 : Int32) rfl dX2_readSpace_67 ?_
        exact z_zret (pc := 68) hC rfl rfl dX2_readSpace_68
      · refine z_aload_n (pc := 50) hC 0 rfl 0 rfl dX2_readSpace_50 ?_
        refine z_iconst (pc := 51) hC (3 : Int32) rfl dX2_readSpace_51 ?_
        refine z_ciV (pc := 52) (st := []) hC y_X2_fail q517 [.inl (.int (3 : Int32))] rfl (hX 2 rfl) rfl rfl (c_X2_fail hC.2.2.2.2.2.2.1 hcl hX hT) rfl ⟨rfl, rfl, (Nat.le_of_ble_eq_true rfl), (Nat.le_of_ble_eq_true rfl)⟩ (Nat.le_of_ble_eq_true rfl) dX2_readSpace_52 (fun r9 d10 => ?_)
        exact z_zretG (pc := 55) hC rfl dX2_readSpace_55
    · refine z_aload_n (pc := 30) hC 0 rfl 0 rfl dX2_readSpace_30 ?_
      refine z_iconst (pc := 31) hC (1 : Int32) rfl dX2_readSpace_31 ?_
      refine z_ciV (pc := 32) (st := []) hC y_X2_fail q517 [.inl (.int (1 : Int32))] rfl (hX 2 rfl) rfl rfl (c_X2_fail hC.2.2.2.2.2.2.1 hcl hX hT) rfl ⟨rfl, rfl, (Nat.le_of_ble_eq_true rfl), (Nat.le_of_ble_eq_true rfl)⟩ (Nat.le_of_ble_eq_true rfl) dX2_readSpace_32 (fun r11 d12 => ?_)
      exact z_zretG (pc := 35) hC rfl dX2_readSpace_35
  · refine z_aload_n (pc := 12) hC 0 rfl 0 rfl dX2_readSpace_12 ?_
    refine z_iconst (pc := 13) hC (2 : Int32) rfl dX2_readSpace_13 ?_
    refine z_ciV (pc := 14) (st := []) hC y_X2_fail q517 [.inl (.int (2 : Int32))] rfl (hX 2 rfl) rfl rfl (c_X2_fail hC.2.2.2.2.2.2.1 hcl hX hT) rfl ⟨rfl, rfl, (Nat.le_of_ble_eq_true rfl), (Nat.le_of_ble_eq_true rfl)⟩ (Nat.le_of_ble_eq_true rfl) dX2_readSpace_14 (fun r13 d14 => ?_)
    exact z_zretG (pc := 17) hC rfl dX2_readSpace_17
theorem c_X2_readSpace {G : Geo} (hG : GOk G) (hcl : GCl G) (hX : LXx G) (hT : LSt G) {d : Mem} (l : Launch) (r : Int32) (d1 : Mem) (h : Re_readSpace d = some (r, d1)) : Mt l yX2_readSpace cX2_readSpace 1 (some .boolean) rm_X2_readSpace G [.inr (0, 2)] (gm d) (avI r) (gm d1) :=
  mt_of (mem := gm) (po := poM avI gm) (x0 := d) (t := (r, d1)) rfl hG [.inr (0, 2)] (Nat.le_of_ble_eq_true rfl) rfl (fun C hC => r_Re_readSpace hC hcl hX hT d) h
-- FrameHeirs$Reader.takeSpace()I
abbrev rm_X2_takeSpace : Room := { frames := 3, cells := 0, slots := 0, locals := 63 }
theorem dX2_takeSpace_0 : decode cX2_takeSpace 0 = .ok (.aload_n 0, 1) := by decide +kernel
theorem dX2_takeSpace_1 : decode cX2_takeSpace 1 = .ok (.invokevirtual 58, 3) := by decide +kernel
theorem dX2_takeSpace_4 : decode cX2_takeSpace 4 = .ok (.aload_n 0, 1) := by decide +kernel
theorem dX2_takeSpace_5 : decode cX2_takeSpace 5 = .ok (.getfield 24, 3) := by decide +kernel
theorem dX2_takeSpace_8 : decode cX2_takeSpace 8 = .ok (.iconst 1, 1) := by decide +kernel
theorem dX2_takeSpace_9 : decode cX2_takeSpace 9 = .ok (.if_icmp .eq 11, 3) := by decide +kernel
theorem dX2_takeSpace_12 : decode cX2_takeSpace 12 = .ok (.aload_n 0, 1) := by decide +kernel
theorem dX2_takeSpace_13 : decode cX2_takeSpace 13 = .ok (.iconst 1, 1) := by decide +kernel
theorem dX2_takeSpace_14 : decode cX2_takeSpace 14 = .ok (.invokevirtual 61, 3) := by decide +kernel
theorem dX2_takeSpace_17 : decode cX2_takeSpace 17 = .ok (.pop, 1) := by decide +kernel
theorem dX2_takeSpace_18 : decode cX2_takeSpace 18 = .ok (.iconst (-1), 1) := by decide +kernel
theorem dX2_takeSpace_19 : decode cX2_takeSpace 19 = .ok (.ireturn, 1) := by decide +kernel
theorem dX2_takeSpace_20 : decode cX2_takeSpace 20 = .ok (.aload_n 0, 1) := by decide +kernel
theorem dX2_takeSpace_21 : decode cX2_takeSpace 21 = .ok (.getfield 43, 3) := by decide +kernel
theorem dX2_takeSpace_24 : decode cX2_takeSpace 24 = .ok (.aload_n 0, 1) := by decide +kernel
theorem dX2_takeSpace_25 : decode cX2_takeSpace 25 = .ok (.getfield 30, 3) := by decide +kernel
theorem dX2_takeSpace_28 : decode cX2_takeSpace 28 = .ok (.invokevirtual 87, 3) := by decide +kernel
theorem dX2_takeSpace_31 : decode cX2_takeSpace 31 = .ok (.istore_n 1, 1) := by decide +kernel
theorem dX2_takeSpace_32 : decode cX2_takeSpace 32 = .ok (.iload_n 1, 1) := by decide +kernel
theorem dX2_takeSpace_33 : decode cX2_takeSpace 33 = .ok (.ifCond .ge 9, 3) := by decide +kernel
theorem dX2_takeSpace_36 : decode cX2_takeSpace 36 = .ok (.aload_n 0, 1) := by decide +kernel
theorem dX2_takeSpace_37 : decode cX2_takeSpace 37 = .ok (.iconst 4, 1) := by decide +kernel
theorem dX2_takeSpace_38 : decode cX2_takeSpace 38 = .ok (.invokevirtual 61, 3) := by decide +kernel
theorem dX2_takeSpace_41 : decode cX2_takeSpace 41 = .ok (.pop, 1) := by decide +kernel
theorem dX2_takeSpace_42 : decode cX2_takeSpace 42 = .ok (.iload_n 1, 1) := by decide +kernel
theorem dX2_takeSpace_43 : decode cX2_takeSpace 43 = .ok (.ireturn, 1) := by decide +kernel
def Re_takeSpace (d : Mem) : Option (Int32 × Mem) :=
  bd (Re_take d) fun r1 d2 =>
  if (d2 0 2 5) = (1 : Int32) then
    (gref (d2 0 2 10) fun u3 =>
    bp (Sc_spaceNamed (d2 u3) (d2 0 2 7)) fun r4 =>
    bnd r4 fun v1_5 =>
    if 0 ≤ v1_5 then
      (some (v1_5, d2))
    else
      (bd (Re_fail d2 (4 : Int32)) fun r6 d7 =>
      some (v1_5, d7)))
  else
    (bd (Re_fail d2 (1 : Int32)) fun r8 d9 =>
    some ((-1 : Int32), d9))
theorem y_X2_takeSpace : YV yX2_takeSpace cX2_takeSpace 2 (some .int) 0 := ⟨q539, q7, q540, q145, by decide +kernel, by decide +kernel, by decide +kernel, by decide +kernel⟩
theorem r_Re_takeSpace {C : Cxt} {G : Geo} (hC : Cx C cX2_takeSpace 2 "FrameHeirs$Reader" (some .int) rm_X2_takeSpace G) (hcl : GCl G) (hX : LXx G) (hT : LSt G) (d : Mem) : Rz C 2 G gm (poM avI gm) 0 [(0, .inr (0, 2))] [] d (Re_takeSpace d) := by
  unfold Re_takeSpace
  refine z_aload_n (pc := 0) hC 0 rfl 0 rfl dX2_takeSpace_0 ?_
  refine z_cvV (pc := 1) (st := []) hC y_X2_take q489 [] rfl (hX 2 rfl) rfl rfl (c_X2_take hC.2.2.2.2.2.2.1 hcl hX hT) rfl ⟨rfl, rfl, (Nat.le_of_ble_eq_true rfl), (Nat.le_of_ble_eq_true rfl)⟩ (Nat.le_of_ble_eq_true rfl) dX2_takeSpace_1 (fun r1 d2 => ?_)
  refine z_aload_n (pc := 4) hC 0 rfl 0 rfl dX2_takeSpace_4 ?_
  refine zg_geti (pc := 5) hC (hX 2 rfl) f_2_5 q249 dX2_takeSpace_5 ?_
  refine z_iconst (pc := 8) hC (1 : Int32) rfl dX2_takeSpace_8 ?_
  refine z_icmp_eq (pc := 9) hC 20 rfl dX2_takeSpace_9 ?_ ?_
  · refine z_aload_n (pc := 20) hC 0 rfl 0 rfl dX2_takeSpace_20 ?_
    refine zg_getS (pc := 21) hC hcl (hX 2 rfl) f_2_10 q254 dX2_takeSpace_21 (fun u3 hu3 gu3 => ?_)
    refine z_aload_n (pc := 24) hC 0 rfl 0 rfl dX2_takeSpace_24 ?_
    refine zg_geti (pc := 25) hC (hX 2 rfl) f_2_7 q251 dX2_takeSpace_25 ?_
    refine z_piV (pc := 28) (st := []) hC y_X3_spaceNamed q525 [.inl (.int (d2 0 2 7))] rfl (hu3 4 rfl) rfl rfl (lft_p (c_X3_spaceNamed hC.2.2.2.2.2.2.1 hu3)) rfl ⟨rfl, rfl, (Nat.le_of_ble_eq_true rfl), (Nat.le_of_ble_eq_true rfl)⟩ (Nat.le_of_ble_eq_true rfl) dX2_takeSpace_28 (fun r4 => ?_)
    refine z_istore_n (pc := 31) (ls1 := fun v => [(1, .inl (.int v)), (0, .inr (0, 2))]) hC 1 rfl (by decide) (fun v => rfl) dX2_takeSpace_31 (fun v1_5 => ?_)
    refine z_iload_n (pc := 32) hC 1 rfl 0 rfl dX2_takeSpace_32 ?_
    refine z_if_ge (pc := 33) hC 42 rfl dX2_takeSpace_33 ?_ ?_
    · refine z_iload_n (pc := 42) hC 1 rfl 0 rfl dX2_takeSpace_42 ?_
      exact z_iret (pc := 43) hC rfl dX2_takeSpace_43
    · refine z_aload_n (pc := 36) hC 0 rfl 1 rfl dX2_takeSpace_36 ?_
      refine z_iconst (pc := 37) hC (4 : Int32) rfl dX2_takeSpace_37 ?_
      refine z_ciV (pc := 38) (st := []) hC y_X2_fail q517 [.inl (.int (4 : Int32))] rfl (hX 2 rfl) rfl rfl (c_X2_fail hC.2.2.2.2.2.2.1 hcl hX hT) rfl ⟨rfl, rfl, (Nat.le_of_ble_eq_true rfl), (Nat.le_of_ble_eq_true rfl)⟩ (Nat.le_of_ble_eq_true rfl) dX2_takeSpace_38 (fun r6 d7 => ?_)
      refine z_pop (pc := 41) hC rfl dX2_takeSpace_41 ?_
      refine z_iload_n (pc := 42) hC 1 rfl 0 rfl dX2_takeSpace_42 ?_
      exact z_iret (pc := 43) hC rfl dX2_takeSpace_43
  · refine z_aload_n (pc := 12) hC 0 rfl 0 rfl dX2_takeSpace_12 ?_
    refine z_iconst (pc := 13) hC (1 : Int32) rfl dX2_takeSpace_13 ?_
    refine z_ciV (pc := 14) (st := []) hC y_X2_fail q517 [.inl (.int (1 : Int32))] rfl (hX 2 rfl) rfl rfl (c_X2_fail hC.2.2.2.2.2.2.1 hcl hX hT) rfl ⟨rfl, rfl, (Nat.le_of_ble_eq_true rfl), (Nat.le_of_ble_eq_true rfl)⟩ (Nat.le_of_ble_eq_true rfl) dX2_takeSpace_14 (fun r8 d9 => ?_)
    refine z_pop (pc := 17) hC rfl dX2_takeSpace_17 ?_
    refine z_iconst (pc := 18) hC (-1 : Int32) rfl dX2_takeSpace_18 ?_
    exact z_iret (pc := 19) hC rfl dX2_takeSpace_19
theorem c_X2_takeSpace {G : Geo} (hG : GOk G) (hcl : GCl G) (hX : LXx G) (hT : LSt G) {d : Mem} (l : Launch) (r : Int32) (d1 : Mem) (h : Re_takeSpace d = some (r, d1)) : Mt l yX2_takeSpace cX2_takeSpace 2 (some .int) rm_X2_takeSpace G [.inr (0, 2)] (gm d) (avI r) (gm d1) :=
  mt_of (mem := gm) (po := poM avI gm) (x0 := d) (t := (r, d1)) rfl hG [.inr (0, 2)] (Nat.le_of_ble_eq_true rfl) rfl (fun C hC => r_Re_takeSpace hC hcl hX hT d) h
-- FrameHeirs$Reader.takeNumber(II)I
abbrev rm_X2_takeNumber : Room := { frames := 3, cells := 0, slots := 0, locals := 63 }
theorem dX2_takeNumber_0 : decode cX2_takeNumber 0 = .ok (.aload_n 0, 1) := by decide +kernel
theorem dX2_takeNumber_1 : decode cX2_takeNumber 1 = .ok (.invokevirtual 58, 3) := by decide +kernel
theorem dX2_takeNumber_4 : decode cX2_takeNumber 4 = .ok (.aload_n 0, 1) := by decide +kernel
theorem dX2_takeNumber_5 : decode cX2_takeNumber 5 = .ok (.getfield 24, 3) := by decide +kernel
theorem dX2_takeNumber_8 : decode cX2_takeNumber 8 = .ok (.iconst 3, 1) := by decide +kernel
theorem dX2_takeNumber_9 : decode cX2_takeNumber 9 = .ok (.if_icmp .eq 11, 3) := by decide +kernel
theorem dX2_takeNumber_12 : decode cX2_takeNumber 12 = .ok (.aload_n 0, 1) := by decide +kernel
theorem dX2_takeNumber_13 : decode cX2_takeNumber 13 = .ok (.iconst 1, 1) := by decide +kernel
theorem dX2_takeNumber_14 : decode cX2_takeNumber 14 = .ok (.invokevirtual 61, 3) := by decide +kernel
theorem dX2_takeNumber_17 : decode cX2_takeNumber 17 = .ok (.pop, 1) := by decide +kernel
theorem dX2_takeNumber_18 : decode cX2_takeNumber 18 = .ok (.iconst (-1), 1) := by decide +kernel
theorem dX2_takeNumber_19 : decode cX2_takeNumber 19 = .ok (.ireturn, 1) := by decide +kernel
theorem dX2_takeNumber_20 : decode cX2_takeNumber 20 = .ok (.aload_n 0, 1) := by decide +kernel
theorem dX2_takeNumber_21 : decode cX2_takeNumber 21 = .ok (.getfield 30, 3) := by decide +kernel
theorem dX2_takeNumber_24 : decode cX2_takeNumber 24 = .ok (.iload_n 1, 1) := by decide +kernel
theorem dX2_takeNumber_25 : decode cX2_takeNumber 25 = .ok (.if_icmp .lt 11, 3) := by decide +kernel
theorem dX2_takeNumber_28 : decode cX2_takeNumber 28 = .ok (.aload_n 0, 1) := by decide +kernel
theorem dX2_takeNumber_29 : decode cX2_takeNumber 29 = .ok (.getfield 30, 3) := by decide +kernel
theorem dX2_takeNumber_32 : decode cX2_takeNumber 32 = .ok (.iload_n 2, 1) := by decide +kernel
theorem dX2_takeNumber_33 : decode cX2_takeNumber 33 = .ok (.if_icmp .le 11, 3) := by decide +kernel
theorem dX2_takeNumber_36 : decode cX2_takeNumber 36 = .ok (.aload_n 0, 1) := by decide +kernel
theorem dX2_takeNumber_37 : decode cX2_takeNumber 37 = .ok (.iconst 2, 1) := by decide +kernel
theorem dX2_takeNumber_38 : decode cX2_takeNumber 38 = .ok (.invokevirtual 61, 3) := by decide +kernel
theorem dX2_takeNumber_41 : decode cX2_takeNumber 41 = .ok (.pop, 1) := by decide +kernel
theorem dX2_takeNumber_42 : decode cX2_takeNumber 42 = .ok (.iconst (-1), 1) := by decide +kernel
theorem dX2_takeNumber_43 : decode cX2_takeNumber 43 = .ok (.ireturn, 1) := by decide +kernel
theorem dX2_takeNumber_44 : decode cX2_takeNumber 44 = .ok (.aload_n 0, 1) := by decide +kernel
theorem dX2_takeNumber_45 : decode cX2_takeNumber 45 = .ok (.getfield 30, 3) := by decide +kernel
theorem dX2_takeNumber_48 : decode cX2_takeNumber 48 = .ok (.ireturn, 1) := by decide +kernel
def Re_takeNumber_36 (d : Mem) : Option (Int32 × Mem) :=
  bd (Re_fail d (2 : Int32)) fun r1 d2 =>
  some ((-1 : Int32), d2)
def Re_takeNumber (d : Mem) (a1 : Int32) (a2 : Int32) : Option (Int32 × Mem) :=
  bd (Re_take d) fun r3 d4 =>
  if (d4 0 2 5) = (3 : Int32) then
    (if (d4 0 2 7) < a1 then
      (Re_takeNumber_36 d4)
    else
      (if (d4 0 2 7) ≤ a2 then
        (some ((d4 0 2 7), d4))
      else
        (Re_takeNumber_36 d4)))
  else
    (bd (Re_fail d4 (1 : Int32)) fun r5 d6 =>
    some ((-1 : Int32), d6))
theorem y_X2_takeNumber : YV yX2_takeNumber cX2_takeNumber 3 (some .int) 2 := ⟨q543, q8, q544, q145, by decide +kernel, by decide +kernel, by decide +kernel, by decide +kernel⟩
theorem r_Re_takeNumber_36 {C : Cxt} {G : Geo} (hC : Cx C cX2_takeNumber 3 "FrameHeirs$Reader" (some .int) rm_X2_takeNumber G) (hcl : GCl G) (hX : LXx G) (hT : LSt G) (d : Mem) : Rz C 3 G gm (poM avI gm) 36 [(0, .inr (0, 2))] [] d (Re_takeNumber_36 d) := by
  unfold Re_takeNumber_36
  refine z_aload_n (pc := 36) hC 0 rfl 0 rfl dX2_takeNumber_36 ?_
  refine z_iconst (pc := 37) hC (2 : Int32) rfl dX2_takeNumber_37 ?_
  refine z_ciV (pc := 38) (st := []) hC y_X2_fail q517 [.inl (.int (2 : Int32))] rfl (hX 2 rfl) rfl rfl (c_X2_fail hC.2.2.2.2.2.2.1 hcl hX hT) rfl ⟨rfl, rfl, (Nat.le_of_ble_eq_true rfl), (Nat.le_of_ble_eq_true rfl)⟩ (Nat.le_of_ble_eq_true rfl) dX2_takeNumber_38 (fun r1 d2 => ?_)
  refine z_pop (pc := 41) hC rfl dX2_takeNumber_41 ?_
  refine z_iconst (pc := 42) hC (-1 : Int32) rfl dX2_takeNumber_42 ?_
  exact z_iret (pc := 43) hC rfl dX2_takeNumber_43
theorem r_Re_takeNumber {C : Cxt} {G : Geo} (hC : Cx C cX2_takeNumber 3 "FrameHeirs$Reader" (some .int) rm_X2_takeNumber G) (hcl : GCl G) (hX : LXx G) (hT : LSt G) (d : Mem) (a1 : Int32) (a2 : Int32) : Rz C 3 G gm (poM avI gm) 0 [(0, .inr (0, 2)), (1, .inl (.int a1)), (2, .inl (.int a2))] [] d (Re_takeNumber d a1 a2) := by
  unfold Re_takeNumber
  refine z_aload_n (pc := 0) hC 0 rfl 0 rfl dX2_takeNumber_0 ?_
  refine z_cvV (pc := 1) (st := []) hC y_X2_take q489 [] rfl (hX 2 rfl) rfl rfl (c_X2_take hC.2.2.2.2.2.2.1 hcl hX hT) rfl ⟨rfl, rfl, (Nat.le_of_ble_eq_true rfl), (Nat.le_of_ble_eq_true rfl)⟩ (Nat.le_of_ble_eq_true rfl) dX2_takeNumber_1 (fun r3 d4 => ?_)
  refine z_aload_n (pc := 4) hC 0 rfl 0 rfl dX2_takeNumber_4 ?_
  refine zg_geti (pc := 5) hC (hX 2 rfl) f_2_5 q249 dX2_takeNumber_5 ?_
  refine z_iconst (pc := 8) hC (3 : Int32) rfl dX2_takeNumber_8 ?_
  refine z_icmp_eq (pc := 9) hC 20 rfl dX2_takeNumber_9 ?_ ?_
  · refine z_aload_n (pc := 20) hC 0 rfl 0 rfl dX2_takeNumber_20 ?_
    refine zg_geti (pc := 21) hC (hX 2 rfl) f_2_7 q251 dX2_takeNumber_21 ?_
    refine z_iload_n (pc := 24) hC 1 rfl 1 rfl dX2_takeNumber_24 ?_
    refine z_icmp_lt (pc := 25) hC 36 rfl dX2_takeNumber_25 ?_ ?_
    · exact z_sub [0] rfl (r_Re_takeNumber_36 hC hcl hX hT d4)
    · refine z_aload_n (pc := 28) hC 0 rfl 0 rfl dX2_takeNumber_28 ?_
      refine zg_geti (pc := 29) hC (hX 2 rfl) f_2_7 q251 dX2_takeNumber_29 ?_
      refine z_iload_n (pc := 32) hC 2 rfl 2 rfl dX2_takeNumber_32 ?_
      refine z_icmp_le (pc := 33) hC 44 rfl dX2_takeNumber_33 ?_ ?_
      · refine z_aload_n (pc := 44) hC 0 rfl 0 rfl dX2_takeNumber_44 ?_
        refine zg_geti (pc := 45) hC (hX 2 rfl) f_2_7 q251 dX2_takeNumber_45 ?_
        exact z_iret (pc := 48) hC rfl dX2_takeNumber_48
      · exact z_sub [0] rfl (r_Re_takeNumber_36 hC hcl hX hT d4)
  · refine z_aload_n (pc := 12) hC 0 rfl 0 rfl dX2_takeNumber_12 ?_
    refine z_iconst (pc := 13) hC (1 : Int32) rfl dX2_takeNumber_13 ?_
    refine z_ciV (pc := 14) (st := []) hC y_X2_fail q517 [.inl (.int (1 : Int32))] rfl (hX 2 rfl) rfl rfl (c_X2_fail hC.2.2.2.2.2.2.1 hcl hX hT) rfl ⟨rfl, rfl, (Nat.le_of_ble_eq_true rfl), (Nat.le_of_ble_eq_true rfl)⟩ (Nat.le_of_ble_eq_true rfl) dX2_takeNumber_14 (fun r5 d6 => ?_)
    refine z_pop (pc := 17) hC rfl dX2_takeNumber_17 ?_
    refine z_iconst (pc := 18) hC (-1 : Int32) rfl dX2_takeNumber_18 ?_
    exact z_iret (pc := 19) hC rfl dX2_takeNumber_19
theorem c_X2_takeNumber {G : Geo} (hG : GOk G) (hcl : GCl G) (hX : LXx G) (hT : LSt G) {d : Mem} {a1 : Int32} {a2 : Int32} (l : Launch) (r : Int32) (d1 : Mem) (h : Re_takeNumber d a1 a2 = some (r, d1)) : Mt l yX2_takeNumber cX2_takeNumber 3 (some .int) rm_X2_takeNumber G [.inr (0, 2), .inl (.int a1), .inl (.int a2)] (gm d) (avI r) (gm d1) :=
  mt_of (mem := gm) (po := poM avI gm) (x0 := d) (t := (r, d1)) rfl hG [.inr (0, 2), .inl (.int a1), .inl (.int a2)] (Nat.le_of_ble_eq_true rfl) rfl (fun C hC => r_Re_takeNumber hC hcl hX hT d a1 a2) h
-- FrameHeirs$Reader.readPager()Z
abbrev rm_X2_readPager : Room := { frames := 4, cells := 0, slots := 0, locals := 85 }
theorem dX2_readPager_0 : decode cX2_readPager 0 = .ok (.aload_n 0, 1) := by decide +kernel
theorem dX2_readPager_1 : decode cX2_readPager 1 = .ok (.invokevirtual 95, 3) := by decide +kernel
theorem dX2_readPager_4 : decode cX2_readPager 4 = .ok (.istore_n 1, 1) := by decide +kernel
theorem dX2_readPager_5 : decode cX2_readPager 5 = .ok (.iload_n 1, 1) := by decide +kernel
theorem dX2_readPager_6 : decode cX2_readPager 6 = .ok (.ifCond .ge 5, 3) := by decide +kernel
theorem dX2_readPager_9 : decode cX2_readPager 9 = .ok (.iconst 0, 1) := by decide +kernel
theorem dX2_readPager_10 : decode cX2_readPager 10 = .ok (.ireturn, 1) := by decide +kernel
theorem dX2_readPager_11 : decode cX2_readPager 11 = .ok (.aload_n 0, 1) := by decide +kernel
theorem dX2_readPager_12 : decode cX2_readPager 12 = .ok (.getfield 43, 3) := by decide +kernel
theorem dX2_readPager_15 : decode cX2_readPager 15 = .ok (.getfield 99, 3) := by decide +kernel
theorem dX2_readPager_18 : decode cX2_readPager 18 = .ok (.iload_n 1, 1) := by decide +kernel
theorem dX2_readPager_19 : decode cX2_readPager 19 = .ok (.iaload, 1) := by decide +kernel
theorem dX2_readPager_20 : decode cX2_readPager 20 = .ok (.ifCond .lt 9, 3) := by decide +kernel
theorem dX2_readPager_23 : decode cX2_readPager 23 = .ok (.aload_n 0, 1) := by decide +kernel
theorem dX2_readPager_24 : decode cX2_readPager 24 = .ok (.iconst 3, 1) := by decide +kernel
theorem dX2_readPager_25 : decode cX2_readPager 25 = .ok (.invokevirtual 61, 3) := by decide +kernel
theorem dX2_readPager_28 : decode cX2_readPager 28 = .ok (.ireturn, 1) := by decide +kernel
theorem dX2_readPager_29 : decode cX2_readPager 29 = .ok (.iload_n 1, 1) := by decide +kernel
theorem dX2_readPager_30 : decode cX2_readPager 30 = .ok (.ifCond .ne 9, 3) := by decide +kernel
theorem dX2_readPager_33 : decode cX2_readPager 33 = .ok (.aload_n 0, 1) := by decide +kernel
theorem dX2_readPager_34 : decode cX2_readPager 34 = .ok (.iconst 5, 1) := by decide +kernel
theorem dX2_readPager_35 : decode cX2_readPager 35 = .ok (.invokevirtual 61, 3) := by decide +kernel
theorem dX2_readPager_38 : decode cX2_readPager 38 = .ok (.ireturn, 1) := by decide +kernel
theorem dX2_readPager_39 : decode cX2_readPager 39 = .ok (.aload_n 0, 1) := by decide +kernel
theorem dX2_readPager_40 : decode cX2_readPager 40 = .ok (.invokevirtual 95, 3) := by decide +kernel
theorem dX2_readPager_43 : decode cX2_readPager 43 = .ok (.istore_n 2, 1) := by decide +kernel
theorem dX2_readPager_44 : decode cX2_readPager 44 = .ok (.iload_n 2, 1) := by decide +kernel
theorem dX2_readPager_45 : decode cX2_readPager 45 = .ok (.ifCond .ge 5, 3) := by decide +kernel
theorem dX2_readPager_48 : decode cX2_readPager 48 = .ok (.iconst 0, 1) := by decide +kernel
theorem dX2_readPager_49 : decode cX2_readPager 49 = .ok (.ireturn, 1) := by decide +kernel
theorem dX2_readPager_50 : decode cX2_readPager 50 = .ok (.iload_n 2, 1) := by decide +kernel
theorem dX2_readPager_51 : decode cX2_readPager 51 = .ok (.iload_n 1, 1) := by decide +kernel
theorem dX2_readPager_52 : decode cX2_readPager 52 = .ok (.if_icmp .ne 9, 3) := by decide +kernel
theorem dX2_readPager_55 : decode cX2_readPager 55 = .ok (.aload_n 0, 1) := by decide +kernel
theorem dX2_readPager_56 : decode cX2_readPager 56 = .ok (.iconst 5, 1) := by decide +kernel
theorem dX2_readPager_57 : decode cX2_readPager 57 = .ok (.invokevirtual 61, 3) := by decide +kernel
theorem dX2_readPager_60 : decode cX2_readPager 60 = .ok (.ireturn, 1) := by decide +kernel
theorem dX2_readPager_61 : decode cX2_readPager 61 = .ok (.aload_n 0, 1) := by decide +kernel
theorem dX2_readPager_62 : decode cX2_readPager 62 = .ok (.iconst 0, 1) := by decide +kernel
theorem dX2_readPager_63 : decode cX2_readPager 63 = .ok (.iconst 3, 1) := by decide +kernel
theorem dX2_readPager_64 : decode cX2_readPager 64 = .ok (.invokevirtual 102, 3) := by decide +kernel
theorem dX2_readPager_67 : decode cX2_readPager 67 = .ok (.istore_n 3, 1) := by decide +kernel
theorem dX2_readPager_68 : decode cX2_readPager 68 = .ok (.iload_n 3, 1) := by decide +kernel
theorem dX2_readPager_69 : decode cX2_readPager 69 = .ok (.ifCond .ge 5, 3) := by decide +kernel
theorem dX2_readPager_72 : decode cX2_readPager 72 = .ok (.iconst 0, 1) := by decide +kernel
theorem dX2_readPager_73 : decode cX2_readPager 73 = .ok (.ireturn, 1) := by decide +kernel
theorem dX2_readPager_74 : decode cX2_readPager 74 = .ok (.aload_n 0, 1) := by decide +kernel
theorem dX2_readPager_75 : decode cX2_readPager 75 = .ok (.getfield 43, 3) := by decide +kernel
theorem dX2_readPager_78 : decode cX2_readPager 78 = .ok (.getfield 99, 3) := by decide +kernel
theorem dX2_readPager_81 : decode cX2_readPager 81 = .ok (.iload_n 1, 1) := by decide +kernel
theorem dX2_readPager_82 : decode cX2_readPager 82 = .ok (.iload_n 2, 1) := by decide +kernel
theorem dX2_readPager_83 : decode cX2_readPager 83 = .ok (.iastore, 1) := by decide +kernel
theorem dX2_readPager_84 : decode cX2_readPager 84 = .ok (.aload_n 0, 1) := by decide +kernel
theorem dX2_readPager_85 : decode cX2_readPager 85 = .ok (.getfield 43, 3) := by decide +kernel
theorem dX2_readPager_88 : decode cX2_readPager 88 = .ok (.getfield 105, 3) := by decide +kernel
theorem dX2_readPager_91 : decode cX2_readPager 91 = .ok (.iload_n 1, 1) := by decide +kernel
theorem dX2_readPager_92 : decode cX2_readPager 92 = .ok (.iload_n 3, 1) := by decide +kernel
theorem dX2_readPager_93 : decode cX2_readPager 93 = .ok (.iastore, 1) := by decide +kernel
theorem dX2_readPager_94 : decode cX2_readPager 94 = .ok (.iconst 1, 1) := by decide +kernel
theorem dX2_readPager_95 : decode cX2_readPager 95 = .ok (.ireturn, 1) := by decide +kernel
def Re_readPager (d : Mem) : Option (Int32 × Mem) :=
  bd (Re_takeSpace d) fun r1 d2 =>
  bnd r1 fun v1_3 =>
  if 0 ≤ v1_3 then
    (gref (d2 0 2 10) fun u4 =>
    if inb v1_3 6 then
    if (d2 u4 6 (ix v1_3)) < 0 then
      (if v1_3 = 0 then
        (bd (Re_fail d2 (5 : Int32)) fun r17 d18 =>
        if r17 = 0 ∨ r17 = 1 then some (r17, d18) else none)
      else
        (bd (Re_takeSpace d2) fun r5 d6 =>
        bnd r5 fun v2_7 =>
        if 0 ≤ v2_7 then
          (if v2_7 = v1_3 then
            (bd (Re_fail d6 (5 : Int32)) fun r15 d16 =>
            if r15 = 0 ∨ r15 = 1 then some (r15, d16) else none)
          else
            (bd (Re_takeNumber d6 (0 : Int32) (3 : Int32)) fun r8 d9 =>
            bnd r8 fun v3_10 =>
            if 0 ≤ v3_10 then
              (gref (d9 0 2 10) fun u11 =>
              if inb v1_3 6 then
              bnd (wrM d9 u11 6 (ix v1_3) v2_7) fun d12 =>
              gref (d12 0 2 10) fun u13 =>
              if inb v1_3 6 then
              bnd (wrM d12 u13 7 (ix v1_3) v3_10) fun d14 =>
              some ((1 : Int32), d14)
              else none
              else none)
            else
              (some ((0 : Int32), d9))))
        else
          (some ((0 : Int32), d6))))
    else
      (bd (Re_fail d2 (3 : Int32)) fun r19 d20 =>
      if r19 = 0 ∨ r19 = 1 then some (r19, d20) else none)
    else none)
  else
    (some ((0 : Int32), d2))
theorem y_X2_readPager : YV yX2_readPager cX2_readPager 4 (some .boolean) 0 := ⟨q535, q6, q536, q145, by decide +kernel, by decide +kernel, by decide +kernel, by decide +kernel⟩
theorem r_Re_readPager {C : Cxt} {G : Geo} (hC : Cx C cX2_readPager 4 "FrameHeirs$Reader" (some .boolean) rm_X2_readPager G) (hcl : GCl G) (hX : LXx G) (hT : LSt G) (d : Mem) : Rz C 4 G gm (poM avI gm) 0 [(0, .inr (0, 2))] [] d (Re_readPager d) := by
  unfold Re_readPager
  refine z_aload_n (pc := 0) hC 0 rfl 0 rfl dX2_readPager_0 ?_
  refine z_ciV (pc := 1) (st := []) hC y_X2_takeSpace q537 [] rfl (hX 2 rfl) rfl rfl (c_X2_takeSpace hC.2.2.2.2.2.2.1 hcl hX hT) rfl ⟨rfl, rfl, (Nat.le_of_ble_eq_true rfl), (Nat.le_of_ble_eq_true rfl)⟩ (Nat.le_of_ble_eq_true rfl) dX2_readPager_1 (fun r1 d2 => ?_)
  refine z_istore_n (pc := 4) (ls1 := fun v => [(1, .inl (.int v)), (0, .inr (0, 2))]) hC 1 rfl (by decide) (fun v => rfl) dX2_readPager_4 (fun v1_3 => ?_)
  refine z_iload_n (pc := 5) hC 1 rfl 0 rfl dX2_readPager_5 ?_
  refine z_if_ge (pc := 6) hC 11 rfl dX2_readPager_6 ?_ ?_
  · refine z_aload_n (pc := 11) hC 0 rfl 1 rfl dX2_readPager_11 ?_
    refine zg_getS (pc := 12) hC hcl (hX 2 rfl) f_2_10 q254 dX2_readPager_12 (fun u4 hu4 gu4 => ?_)
    refine z_getc (pc := 15) hC (hu4 4 rfl) f_4_1 q175 dX2_readPager_15 ?_
    refine z_iload_n (pc := 18) hC 1 rfl 0 rfl dX2_readPager_18 ?_
    refine zg_iald (pc := 19) hC (hu4 6 rfl) rfl dX2_readPager_19 ?_
    refine z_if_lt (pc := 20) hC 29 rfl dX2_readPager_20 ?_ ?_
    · refine z_iload_n (pc := 29) hC 1 rfl 0 rfl dX2_readPager_29 ?_
      refine z_if_ne (pc := 30) hC 39 rfl dX2_readPager_30 ?_ ?_
      · refine z_aload_n (pc := 39) hC 0 rfl 1 rfl dX2_readPager_39 ?_
        refine z_ciV (pc := 40) (st := []) hC y_X2_takeSpace q537 [] rfl (hX 2 rfl) rfl rfl (c_X2_takeSpace hC.2.2.2.2.2.2.1 hcl hX hT) rfl ⟨rfl, rfl, (Nat.le_of_ble_eq_true rfl), (Nat.le_of_ble_eq_true rfl)⟩ (Nat.le_of_ble_eq_true rfl) dX2_readPager_40 (fun r5 d6 => ?_)
        refine z_istore_n (pc := 43) (ls1 := fun v => [(2, .inl (.int v)), (1, .inl (.int v1_3)), (0, .inr (0, 2))]) hC 2 rfl (by decide) (fun v => rfl) dX2_readPager_43 (fun v2_7 => ?_)
        refine z_iload_n (pc := 44) hC 2 rfl 0 rfl dX2_readPager_44 ?_
        refine z_if_ge (pc := 45) hC 50 rfl dX2_readPager_45 ?_ ?_
        · refine z_iload_n (pc := 50) hC 2 rfl 0 rfl dX2_readPager_50 ?_
          refine z_iload_n (pc := 51) hC 1 rfl 1 rfl dX2_readPager_51 ?_
          refine z_icmp_ne (pc := 52) hC 61 rfl dX2_readPager_52 ?_ ?_
          · refine z_aload_n (pc := 61) hC 0 rfl 2 rfl dX2_readPager_61 ?_
            refine z_iconst (pc := 62) hC (0 : Int32) rfl dX2_readPager_62 ?_
            refine z_iconst (pc := 63) hC (3 : Int32) rfl dX2_readPager_63 ?_
            refine z_ciV (pc := 64) (st := []) hC y_X2_takeNumber q541 [.inl (.int (0 : Int32)), .inl (.int (3 : Int32))] rfl (hX 2 rfl) rfl rfl (c_X2_takeNumber hC.2.2.2.2.2.2.1 hcl hX hT) rfl ⟨rfl, rfl, (Nat.le_of_ble_eq_true rfl), (Nat.le_of_ble_eq_true rfl)⟩ (Nat.le_of_ble_eq_true rfl) dX2_readPager_64 (fun r8 d9 => ?_)
            refine z_istore_n (pc := 67) (ls1 := fun v => [(3, .inl (.int v)), (2, .inl (.int v2_7)), (1, .inl (.int v1_3)), (0, .inr (0, 2))]) hC 3 rfl (by decide) (fun v => rfl) dX2_readPager_67 (fun v3_10 => ?_)
            refine z_iload_n (pc := 68) hC 3 rfl 0 rfl dX2_readPager_68 ?_
            refine z_if_ge (pc := 69) hC 74 rfl dX2_readPager_69 ?_ ?_
            · refine z_aload_n (pc := 74) hC 0 rfl 3 rfl dX2_readPager_74 ?_
              refine zg_getS (pc := 75) hC hcl (hX 2 rfl) f_2_10 q254 dX2_readPager_75 (fun u11 hu11 gu11 => ?_)
              refine z_getc (pc := 78) hC (hu11 4 rfl) f_4_1 q175 dX2_readPager_78 ?_
              refine z_iload_n (pc := 81) hC 1 rfl 2 rfl dX2_readPager_81 ?_
              refine z_iload_n (pc := 82) hC 2 rfl 1 rfl dX2_readPager_82 ?_
              refine zg_iast (pc := 83) hC (hu11 6 rfl) (by decide) rfl dX2_readPager_83 (fun d12 => ?_)
              refine z_aload_n (pc := 84) hC 0 rfl 3 rfl dX2_readPager_84 ?_
              refine zg_getS (pc := 85) hC hcl (hX 2 rfl) f_2_10 q254 dX2_readPager_85 (fun u13 hu13 gu13 => ?_)
              refine z_getc (pc := 88) hC (hu13 4 rfl) f_4_2 q178 dX2_readPager_88 ?_
              refine z_iload_n (pc := 91) hC 1 rfl 2 rfl dX2_readPager_91 ?_
              refine z_iload_n (pc := 92) hC 3 rfl 0 rfl dX2_readPager_92 ?_
              refine zg_iast (pc := 93) hC (hu13 7 rfl) (by decide) rfl dX2_readPager_93 (fun d14 => ?_)
              refine z_iconst (pc := 94) hC (1 : Int32) rfl dX2_readPager_94 ?_
              exact z_zret (pc := 95) hC rfl rfl dX2_readPager_95
            · refine z_iconst (pc := 72) hC (0 : Int32) rfl dX2_readPager_72 ?_
              exact z_zret (pc := 73) hC rfl rfl dX2_readPager_73
          · refine z_aload_n (pc := 55) hC 0 rfl 2 rfl dX2_readPager_55 ?_
            refine z_iconst (pc := 56) hC (5 : Int32) rfl dX2_readPager_56 ?_
            refine z_ciV (pc := 57) (st := []) hC y_X2_fail q517 [.inl (.int (5 : Int32))] rfl (hX 2 rfl) rfl rfl (c_X2_fail hC.2.2.2.2.2.2.1 hcl hX hT) rfl ⟨rfl, rfl, (Nat.le_of_ble_eq_true rfl), (Nat.le_of_ble_eq_true rfl)⟩ (Nat.le_of_ble_eq_true rfl) dX2_readPager_57 (fun r15 d16 => ?_)
            exact z_zretG (pc := 60) hC rfl dX2_readPager_60
        · refine z_iconst (pc := 48) hC (0 : Int32) rfl dX2_readPager_48 ?_
          exact z_zret (pc := 49) hC rfl rfl dX2_readPager_49
      · refine z_aload_n (pc := 33) hC 0 rfl 1 rfl dX2_readPager_33 ?_
        refine z_iconst (pc := 34) hC (5 : Int32) rfl dX2_readPager_34 ?_
        refine z_ciV (pc := 35) (st := []) hC y_X2_fail q517 [.inl (.int (5 : Int32))] rfl (hX 2 rfl) rfl rfl (c_X2_fail hC.2.2.2.2.2.2.1 hcl hX hT) rfl ⟨rfl, rfl, (Nat.le_of_ble_eq_true rfl), (Nat.le_of_ble_eq_true rfl)⟩ (Nat.le_of_ble_eq_true rfl) dX2_readPager_35 (fun r17 d18 => ?_)
        exact z_zretG (pc := 38) hC rfl dX2_readPager_38
    · refine z_aload_n (pc := 23) hC 0 rfl 1 rfl dX2_readPager_23 ?_
      refine z_iconst (pc := 24) hC (3 : Int32) rfl dX2_readPager_24 ?_
      refine z_ciV (pc := 25) (st := []) hC y_X2_fail q517 [.inl (.int (3 : Int32))] rfl (hX 2 rfl) rfl rfl (c_X2_fail hC.2.2.2.2.2.2.1 hcl hX hT) rfl ⟨rfl, rfl, (Nat.le_of_ble_eq_true rfl), (Nat.le_of_ble_eq_true rfl)⟩ (Nat.le_of_ble_eq_true rfl) dX2_readPager_25 (fun r19 d20 => ?_)
      exact z_zretG (pc := 28) hC rfl dX2_readPager_28
  · refine z_iconst (pc := 9) hC (0 : Int32) rfl dX2_readPager_9 ?_
    exact z_zret (pc := 10) hC rfl rfl dX2_readPager_10
theorem c_X2_readPager {G : Geo} (hG : GOk G) (hcl : GCl G) (hX : LXx G) (hT : LSt G) {d : Mem} (l : Launch) (r : Int32) (d1 : Mem) (h : Re_readPager d = some (r, d1)) : Mt l yX2_readPager cX2_readPager 4 (some .boolean) rm_X2_readPager G [.inr (0, 2)] (gm d) (avI r) (gm d1) :=
  mt_of (mem := gm) (po := poM avI gm) (x0 := d) (t := (r, d1)) rfl hG [.inr (0, 2)] (Nat.le_of_ble_eq_true rfl) rfl (fun C hC => r_Re_readPager hC hcl hX hT d) h
-- FrameHeirs$Reader.readQuota()Z
abbrev rm_X2_readQuota : Room := { frames := 4, cells := 0, slots := 0, locals := 85 }
theorem dX2_readQuota_0 : decode cX2_readQuota 0 = .ok (.aload_n 0, 1) := by decide +kernel
theorem dX2_readQuota_1 : decode cX2_readQuota 1 = .ok (.invokevirtual 95, 3) := by decide +kernel
theorem dX2_readQuota_4 : decode cX2_readQuota 4 = .ok (.istore_n 1, 1) := by decide +kernel
theorem dX2_readQuota_5 : decode cX2_readQuota 5 = .ok (.iload_n 1, 1) := by decide +kernel
theorem dX2_readQuota_6 : decode cX2_readQuota 6 = .ok (.ifCond .ge 5, 3) := by decide +kernel
theorem dX2_readQuota_9 : decode cX2_readQuota 9 = .ok (.iconst 0, 1) := by decide +kernel
theorem dX2_readQuota_10 : decode cX2_readQuota 10 = .ok (.ireturn, 1) := by decide +kernel
theorem dX2_readQuota_11 : decode cX2_readQuota 11 = .ok (.aload_n 0, 1) := by decide +kernel
theorem dX2_readQuota_12 : decode cX2_readQuota 12 = .ok (.getfield 36, 3) := by decide +kernel
theorem dX2_readQuota_15 : decode cX2_readQuota 15 = .ok (.iload_n 1, 1) := by decide +kernel
theorem dX2_readQuota_16 : decode cX2_readQuota 16 = .ok (.ishr, 1) := by decide +kernel
theorem dX2_readQuota_17 : decode cX2_readQuota 17 = .ok (.iconst 1, 1) := by decide +kernel
theorem dX2_readQuota_18 : decode cX2_readQuota 18 = .ok (.iand, 1) := by decide +kernel
theorem dX2_readQuota_19 : decode cX2_readQuota 19 = .ok (.ifCond .eq 9, 3) := by decide +kernel
theorem dX2_readQuota_22 : decode cX2_readQuota 22 = .ok (.aload_n 0, 1) := by decide +kernel
theorem dX2_readQuota_23 : decode cX2_readQuota 23 = .ok (.iconst 3, 1) := by decide +kernel
theorem dX2_readQuota_24 : decode cX2_readQuota 24 = .ok (.invokevirtual 61, 3) := by decide +kernel
theorem dX2_readQuota_27 : decode cX2_readQuota 27 = .ok (.ireturn, 1) := by decide +kernel
theorem dX2_readQuota_28 : decode cX2_readQuota 28 = .ok (.aload_n 0, 1) := by decide +kernel
theorem dX2_readQuota_29 : decode cX2_readQuota 29 = .ok (.iconst 1, 1) := by decide +kernel
theorem dX2_readQuota_30 : decode cX2_readQuota 30 = .ok (.bipush 32, 2) := by decide +kernel
theorem dX2_readQuota_32 : decode cX2_readQuota 32 = .ok (.invokevirtual 102, 3) := by decide +kernel
theorem dX2_readQuota_35 : decode cX2_readQuota 35 = .ok (.istore_n 2, 1) := by decide +kernel
theorem dX2_readQuota_36 : decode cX2_readQuota 36 = .ok (.iload_n 2, 1) := by decide +kernel
theorem dX2_readQuota_37 : decode cX2_readQuota 37 = .ok (.ifCond .ge 5, 3) := by decide +kernel
theorem dX2_readQuota_40 : decode cX2_readQuota 40 = .ok (.iconst 0, 1) := by decide +kernel
theorem dX2_readQuota_41 : decode cX2_readQuota 41 = .ok (.ireturn, 1) := by decide +kernel
theorem dX2_readQuota_42 : decode cX2_readQuota 42 = .ok (.aload_n 0, 1) := by decide +kernel
theorem dX2_readQuota_43 : decode cX2_readQuota 43 = .ok (.getfield 43, 3) := by decide +kernel
theorem dX2_readQuota_46 : decode cX2_readQuota 46 = .ok (.getfield 108, 3) := by decide +kernel
theorem dX2_readQuota_49 : decode cX2_readQuota 49 = .ok (.iload_n 1, 1) := by decide +kernel
theorem dX2_readQuota_50 : decode cX2_readQuota 50 = .ok (.iload_n 2, 1) := by decide +kernel
theorem dX2_readQuota_51 : decode cX2_readQuota 51 = .ok (.iastore, 1) := by decide +kernel
theorem dX2_readQuota_52 : decode cX2_readQuota 52 = .ok (.aload_n 0, 1) := by decide +kernel
theorem dX2_readQuota_53 : decode cX2_readQuota 53 = .ok (.dup, 1) := by decide +kernel
theorem dX2_readQuota_54 : decode cX2_readQuota 54 = .ok (.getfield 36, 3) := by decide +kernel
theorem dX2_readQuota_57 : decode cX2_readQuota 57 = .ok (.iconst 1, 1) := by decide +kernel
theorem dX2_readQuota_58 : decode cX2_readQuota 58 = .ok (.iload_n 1, 1) := by decide +kernel
theorem dX2_readQuota_59 : decode cX2_readQuota 59 = .ok (.ishl, 1) := by decide +kernel
theorem dX2_readQuota_60 : decode cX2_readQuota 60 = .ok (.ior, 1) := by decide +kernel
theorem dX2_readQuota_61 : decode cX2_readQuota 61 = .ok (.putfield 36, 3) := by decide +kernel
theorem dX2_readQuota_64 : decode cX2_readQuota 64 = .ok (.iconst 1, 1) := by decide +kernel
theorem dX2_readQuota_65 : decode cX2_readQuota 65 = .ok (.ireturn, 1) := by decide +kernel
def Re_readQuota (d : Mem) : Option (Int32 × Mem) :=
  bd (Re_takeSpace d) fun r1 d2 =>
  bnd r1 fun v1_3 =>
  if 0 ≤ v1_3 then
    (if (((d2 0 2 9) >>> (v1_3 &&& 31)) &&& (1 : Int32)) = 0 then
      (bd (Re_takeNumber d2 (1 : Int32) (32 : Int32)) fun r4 d5 =>
      bnd r4 fun v2_6 =>
      if 0 ≤ v2_6 then
        (gref (d5 0 2 10) fun u7 =>
        if inb v1_3 6 then
        bnd (wrM d5 u7 8 (ix v1_3) v2_6) fun d8 =>
        bnd (wrM d8 0 2 9 ((d8 0 2 9) ||| ((1 : Int32) <<< (v1_3 &&& 31)))) fun d9 =>
        some ((1 : Int32), d9)
        else none)
      else
        (some ((0 : Int32), d5)))
    else
      (bd (Re_fail d2 (3 : Int32)) fun r10 d11 =>
      if r10 = 0 ∨ r10 = 1 then some (r10, d11) else none))
  else
    (some ((0 : Int32), d2))
theorem y_X2_readQuota : YV yX2_readQuota cX2_readQuota 3 (some .boolean) 0 := ⟨q547, q9, q548, q145, by decide +kernel, by decide +kernel, by decide +kernel, by decide +kernel⟩
theorem r_Re_readQuota {C : Cxt} {G : Geo} (hC : Cx C cX2_readQuota 3 "FrameHeirs$Reader" (some .boolean) rm_X2_readQuota G) (hcl : GCl G) (hX : LXx G) (hT : LSt G) (d : Mem) : Rz C 3 G gm (poM avI gm) 0 [(0, .inr (0, 2))] [] d (Re_readQuota d) := by
  unfold Re_readQuota
  refine z_aload_n (pc := 0) hC 0 rfl 0 rfl dX2_readQuota_0 ?_
  refine z_ciV (pc := 1) (st := []) hC y_X2_takeSpace q537 [] rfl (hX 2 rfl) rfl rfl (c_X2_takeSpace hC.2.2.2.2.2.2.1 hcl hX hT) rfl ⟨rfl, rfl, (Nat.le_of_ble_eq_true rfl), (Nat.le_of_ble_eq_true rfl)⟩ (Nat.le_of_ble_eq_true rfl) dX2_readQuota_1 (fun r1 d2 => ?_)
  refine z_istore_n (pc := 4) (ls1 := fun v => [(1, .inl (.int v)), (0, .inr (0, 2))]) hC 1 rfl (by decide) (fun v => rfl) dX2_readQuota_4 (fun v1_3 => ?_)
  refine z_iload_n (pc := 5) hC 1 rfl 0 rfl dX2_readQuota_5 ?_
  refine z_if_ge (pc := 6) hC 11 rfl dX2_readQuota_6 ?_ ?_
  · refine z_aload_n (pc := 11) hC 0 rfl 1 rfl dX2_readQuota_11 ?_
    refine zg_geti (pc := 12) hC (hX 2 rfl) f_2_9 q253 dX2_readQuota_12 ?_
    refine z_iload_n (pc := 15) hC 1 rfl 0 rfl dX2_readQuota_15 ?_
    refine z_ishr (pc := 16) hC dX2_readQuota_16 ?_
    refine z_iconst (pc := 17) hC (1 : Int32) rfl dX2_readQuota_17 ?_
    refine z_iand (pc := 18) hC dX2_readQuota_18 ?_
    refine z_if_eq (pc := 19) hC 28 rfl dX2_readQuota_19 ?_ ?_
    · refine z_aload_n (pc := 28) hC 0 rfl 1 rfl dX2_readQuota_28 ?_
      refine z_iconst (pc := 29) hC (1 : Int32) rfl dX2_readQuota_29 ?_
      refine z_bipush (pc := 30) hC (32 : Int32) rfl dX2_readQuota_30 ?_
      refine z_ciV (pc := 32) (st := []) hC y_X2_takeNumber q541 [.inl (.int (1 : Int32)), .inl (.int (32 : Int32))] rfl (hX 2 rfl) rfl rfl (c_X2_takeNumber hC.2.2.2.2.2.2.1 hcl hX hT) rfl ⟨rfl, rfl, (Nat.le_of_ble_eq_true rfl), (Nat.le_of_ble_eq_true rfl)⟩ (Nat.le_of_ble_eq_true rfl) dX2_readQuota_32 (fun r4 d5 => ?_)
      refine z_istore_n (pc := 35) (ls1 := fun v => [(2, .inl (.int v)), (1, .inl (.int v1_3)), (0, .inr (0, 2))]) hC 2 rfl (by decide) (fun v => rfl) dX2_readQuota_35 (fun v2_6 => ?_)
      refine z_iload_n (pc := 36) hC 2 rfl 0 rfl dX2_readQuota_36 ?_
      refine z_if_ge (pc := 37) hC 42 rfl dX2_readQuota_37 ?_ ?_
      · refine z_aload_n (pc := 42) hC 0 rfl 2 rfl dX2_readQuota_42 ?_
        refine zg_getS (pc := 43) hC hcl (hX 2 rfl) f_2_10 q254 dX2_readQuota_43 (fun u7 hu7 gu7 => ?_)
        refine z_getc (pc := 46) hC (hu7 4 rfl) f_4_3 q181 dX2_readQuota_46 ?_
        refine z_iload_n (pc := 49) hC 1 rfl 1 rfl dX2_readQuota_49 ?_
        refine z_iload_n (pc := 50) hC 2 rfl 0 rfl dX2_readQuota_50 ?_
        refine zg_iast (pc := 51) hC (hu7 8 rfl) (by decide) rfl dX2_readQuota_51 (fun d8 => ?_)
        refine z_aload_n (pc := 52) hC 0 rfl 2 rfl dX2_readQuota_52 ?_
        refine z_dup (pc := 53) hC rfl dX2_readQuota_53 ?_
        refine zg_geti (pc := 54) hC (hX 2 rfl) f_2_9 q253 dX2_readQuota_54 ?_
        refine z_iconst (pc := 57) hC (1 : Int32) rfl dX2_readQuota_57 ?_
        refine z_iload_n (pc := 58) hC 1 rfl 1 rfl dX2_readQuota_58 ?_
        refine z_ishl (pc := 59) hC dX2_readQuota_59 ?_
        refine z_ior (pc := 60) hC dX2_readQuota_60 ?_
        refine zg_puti (pc := 61) hC (hX 2 rfl) f_2_9 q253 dX2_readQuota_61 (fun d9 => ?_)
        refine z_iconst (pc := 64) hC (1 : Int32) rfl dX2_readQuota_64 ?_
        exact z_zret (pc := 65) hC rfl rfl dX2_readQuota_65
      · refine z_iconst (pc := 40) hC (0 : Int32) rfl dX2_readQuota_40 ?_
        exact z_zret (pc := 41) hC rfl rfl dX2_readQuota_41
    · refine z_aload_n (pc := 22) hC 0 rfl 1 rfl dX2_readQuota_22 ?_
      refine z_iconst (pc := 23) hC (3 : Int32) rfl dX2_readQuota_23 ?_
      refine z_ciV (pc := 24) (st := []) hC y_X2_fail q517 [.inl (.int (3 : Int32))] rfl (hX 2 rfl) rfl rfl (c_X2_fail hC.2.2.2.2.2.2.1 hcl hX hT) rfl ⟨rfl, rfl, (Nat.le_of_ble_eq_true rfl), (Nat.le_of_ble_eq_true rfl)⟩ (Nat.le_of_ble_eq_true rfl) dX2_readQuota_24 (fun r10 d11 => ?_)
      exact z_zretG (pc := 27) hC rfl dX2_readQuota_27
  · refine z_iconst (pc := 9) hC (0 : Int32) rfl dX2_readQuota_9 ?_
    exact z_zret (pc := 10) hC rfl rfl dX2_readQuota_10
theorem c_X2_readQuota {G : Geo} (hG : GOk G) (hcl : GCl G) (hX : LXx G) (hT : LSt G) {d : Mem} (l : Launch) (r : Int32) (d1 : Mem) (h : Re_readQuota d = some (r, d1)) : Mt l yX2_readQuota cX2_readQuota 3 (some .boolean) rm_X2_readQuota G [.inr (0, 2)] (gm d) (avI r) (gm d1) :=
  mt_of (mem := gm) (po := poM avI gm) (x0 := d) (t := (r, d1)) rfl hG [.inr (0, 2)] (Nat.le_of_ble_eq_true rfl) rfl (fun C hC => r_Re_readQuota hC hcl hX hT d) h
-- FrameHeirs$Reader.readSetting(I)Z
abbrev rm_X2_readSetting : Room := { frames := 4, cells := 0, slots := 0, locals := 85 }
theorem dX2_readSetting_0 : decode cX2_readSetting 0 = .ok (.iload_n 1, 1) := by decide +kernel
theorem dX2_readSetting_1 : decode cX2_readSetting 1 = .ok (.iconst 3, 1) := by decide +kernel
theorem dX2_readSetting_2 : decode cX2_readSetting 2 = .ok (.if_icmp .ne 19, 3) := by decide +kernel
theorem dX2_readSetting_5 : decode cX2_readSetting 5 = .ok (.aload_n 0, 1) := by decide +kernel
theorem dX2_readSetting_6 : decode cX2_readSetting 6 = .ok (.getfield 43, 3) := by decide +kernel
theorem dX2_readSetting_9 : decode cX2_readSetting 9 = .ok (.getfield 111, 3) := by decide +kernel
theorem dX2_readSetting_12 : decode cX2_readSetting 12 = .ok (.ifCond .le 9, 3) := by decide +kernel
theorem dX2_readSetting_15 : decode cX2_readSetting 15 = .ok (.aload_n 0, 1) := by decide +kernel
theorem dX2_readSetting_16 : decode cX2_readSetting 16 = .ok (.iconst 1, 1) := by decide +kernel
theorem dX2_readSetting_17 : decode cX2_readSetting 17 = .ok (.invokevirtual 61, 3) := by decide +kernel
theorem dX2_readSetting_20 : decode cX2_readSetting 20 = .ok (.ireturn, 1) := by decide +kernel
theorem dX2_readSetting_21 : decode cX2_readSetting 21 = .ok (.aload_n 0, 1) := by decide +kernel
theorem dX2_readSetting_22 : decode cX2_readSetting 22 = .ok (.getfield 33, 3) := by decide +kernel
theorem dX2_readSetting_25 : decode cX2_readSetting 25 = .ok (.iload_n 1, 1) := by decide +kernel
theorem dX2_readSetting_26 : decode cX2_readSetting 26 = .ok (.ishr, 1) := by decide +kernel
theorem dX2_readSetting_27 : decode cX2_readSetting 27 = .ok (.iconst 1, 1) := by decide +kernel
theorem dX2_readSetting_28 : decode cX2_readSetting 28 = .ok (.iand, 1) := by decide +kernel
theorem dX2_readSetting_29 : decode cX2_readSetting 29 = .ok (.ifCond .eq 9, 3) := by decide +kernel
theorem dX2_readSetting_32 : decode cX2_readSetting 32 = .ok (.aload_n 0, 1) := by decide +kernel
theorem dX2_readSetting_33 : decode cX2_readSetting 33 = .ok (.iconst 3, 1) := by decide +kernel
theorem dX2_readSetting_34 : decode cX2_readSetting 34 = .ok (.invokevirtual 61, 3) := by decide +kernel
theorem dX2_readSetting_37 : decode cX2_readSetting 37 = .ok (.ireturn, 1) := by decide +kernel
theorem dX2_readSetting_38 : decode cX2_readSetting 38 = .ok (.aload_n 0, 1) := by decide +kernel
theorem dX2_readSetting_39 : decode cX2_readSetting 39 = .ok (.dup, 1) := by decide +kernel
theorem dX2_readSetting_40 : decode cX2_readSetting 40 = .ok (.getfield 33, 3) := by decide +kernel
theorem dX2_readSetting_43 : decode cX2_readSetting 43 = .ok (.iconst 1, 1) := by decide +kernel
theorem dX2_readSetting_44 : decode cX2_readSetting 44 = .ok (.iload_n 1, 1) := by decide +kernel
theorem dX2_readSetting_45 : decode cX2_readSetting 45 = .ok (.ishl, 1) := by decide +kernel
theorem dX2_readSetting_46 : decode cX2_readSetting 46 = .ok (.ior, 1) := by decide +kernel
theorem dX2_readSetting_47 : decode cX2_readSetting 47 = .ok (.putfield 33, 3) := by decide +kernel
theorem dX2_readSetting_50 : decode cX2_readSetting 50 = .ok (.iload_n 1, 1) := by decide +kernel
theorem dX2_readSetting_51 : decode cX2_readSetting 51 = .ok (.tableswitch 141 3 5 #[25, 81, 111], 25) := by decide +kernel
theorem dX2_readSetting_76 : decode cX2_readSetting 76 = .ok (.aload_n 0, 1) := by decide +kernel
theorem dX2_readSetting_77 : decode cX2_readSetting 77 = .ok (.bipush 8, 2) := by decide +kernel
theorem dX2_readSetting_79 : decode cX2_readSetting 79 = .ok (.bipush 32, 2) := by decide +kernel
theorem dX2_readSetting_81 : decode cX2_readSetting 81 = .ok (.invokevirtual 102, 3) := by decide +kernel
theorem dX2_readSetting_84 : decode cX2_readSetting 84 = .ok (.istore_n 2, 1) := by decide +kernel
theorem dX2_readSetting_85 : decode cX2_readSetting 85 = .ok (.iload_n 2, 1) := by decide +kernel
theorem dX2_readSetting_86 : decode cX2_readSetting 86 = .ok (.iconst (-1), 1) := by decide +kernel
theorem dX2_readSetting_87 : decode cX2_readSetting 87 = .ok (.if_icmp .ne 5, 3) := by decide +kernel
theorem dX2_readSetting_90 : decode cX2_readSetting 90 = .ok (.iconst 0, 1) := by decide +kernel
theorem dX2_readSetting_91 : decode cX2_readSetting 91 = .ok (.ireturn, 1) := by decide +kernel
theorem dX2_readSetting_92 : decode cX2_readSetting 92 = .ok (.aload_n 0, 1) := by decide +kernel
theorem dX2_readSetting_93 : decode cX2_readSetting 93 = .ok (.getfield 43, 3) := by decide +kernel
theorem dX2_readSetting_96 : decode cX2_readSetting 96 = .ok (.iload_n 2, 1) := by decide +kernel
theorem dX2_readSetting_97 : decode cX2_readSetting 97 = .ok (.putfield 114, 3) := by decide +kernel
theorem dX2_readSetting_100 : decode cX2_readSetting 100 = .ok (.iload_n 2, 1) := by decide +kernel
theorem dX2_readSetting_101 : decode cX2_readSetting 101 = .ok (.bipush 8, 2) := by decide +kernel
theorem dX2_readSetting_103 : decode cX2_readSetting 103 = .ok (.if_icmp .eq 23, 3) := by decide +kernel
theorem dX2_readSetting_106 : decode cX2_readSetting 106 = .ok (.iload_n 2, 1) := by decide +kernel
theorem dX2_readSetting_107 : decode cX2_readSetting 107 = .ok (.bipush 16, 2) := by decide +kernel
theorem dX2_readSetting_109 : decode cX2_readSetting 109 = .ok (.if_icmp .eq 17, 3) := by decide +kernel
theorem dX2_readSetting_112 : decode cX2_readSetting 112 = .ok (.iload_n 2, 1) := by decide +kernel
theorem dX2_readSetting_113 : decode cX2_readSetting 113 = .ok (.bipush 32, 2) := by decide +kernel
theorem dX2_readSetting_115 : decode cX2_readSetting 115 = .ok (.if_icmp .eq 11, 3) := by decide +kernel
theorem dX2_readSetting_118 : decode cX2_readSetting 118 = .ok (.aload_n 0, 1) := by decide +kernel
theorem dX2_readSetting_119 : decode cX2_readSetting 119 = .ok (.iconst 2, 1) := by decide +kernel
theorem dX2_readSetting_120 : decode cX2_readSetting 120 = .ok (.invokevirtual 61, 3) := by decide +kernel
theorem dX2_readSetting_123 : decode cX2_readSetting 123 = .ok (.ifCond .eq 7, 3) := by decide +kernel
theorem dX2_readSetting_126 : decode cX2_readSetting 126 = .ok (.iconst 1, 1) := by decide +kernel
theorem dX2_readSetting_127 : decode cX2_readSetting 127 = .ok (.goto 4, 3) := by decide +kernel
theorem dX2_readSetting_130 : decode cX2_readSetting 130 = .ok (.iconst 0, 1) := by decide +kernel
theorem dX2_readSetting_131 : decode cX2_readSetting 131 = .ok (.ireturn, 1) := by decide +kernel
theorem dX2_readSetting_132 : decode cX2_readSetting 132 = .ok (.aload_n 0, 1) := by decide +kernel
theorem dX2_readSetting_133 : decode cX2_readSetting 133 = .ok (.getfield 43, 3) := by decide +kernel
theorem dX2_readSetting_136 : decode cX2_readSetting 136 = .ok (.aload_n 0, 1) := by decide +kernel
theorem dX2_readSetting_137 : decode cX2_readSetting 137 = .ok (.iconst 0, 1) := by decide +kernel
theorem dX2_readSetting_138 : decode cX2_readSetting 138 = .ok (.bipush 9, 2) := by decide +kernel
theorem dX2_readSetting_140 : decode cX2_readSetting 140 = .ok (.invokevirtual 102, 3) := by decide +kernel
theorem dX2_readSetting_143 : decode cX2_readSetting 143 = .ok (.putfield 117, 3) := by decide +kernel
theorem dX2_readSetting_146 : decode cX2_readSetting 146 = .ok (.aload_n 0, 1) := by decide +kernel
theorem dX2_readSetting_147 : decode cX2_readSetting 147 = .ok (.getfield 43, 3) := by decide +kernel
theorem dX2_readSetting_150 : decode cX2_readSetting 150 = .ok (.getfield 117, 3) := by decide +kernel
theorem dX2_readSetting_153 : decode cX2_readSetting 153 = .ok (.ifCond .lt 7, 3) := by decide +kernel
theorem dX2_readSetting_156 : decode cX2_readSetting 156 = .ok (.iconst 1, 1) := by decide +kernel
theorem dX2_readSetting_157 : decode cX2_readSetting 157 = .ok (.goto 4, 3) := by decide +kernel
theorem dX2_readSetting_160 : decode cX2_readSetting 160 = .ok (.iconst 0, 1) := by decide +kernel
theorem dX2_readSetting_161 : decode cX2_readSetting 161 = .ok (.ireturn, 1) := by decide +kernel
theorem dX2_readSetting_162 : decode cX2_readSetting 162 = .ok (.aload_n 0, 1) := by decide +kernel
theorem dX2_readSetting_163 : decode cX2_readSetting 163 = .ok (.getfield 43, 3) := by decide +kernel
theorem dX2_readSetting_166 : decode cX2_readSetting 166 = .ok (.aload_n 0, 1) := by decide +kernel
theorem dX2_readSetting_167 : decode cX2_readSetting 167 = .ok (.iconst 1, 1) := by decide +kernel
theorem dX2_readSetting_168 : decode cX2_readSetting 168 = .ok (.bipush 9, 2) := by decide +kernel
theorem dX2_readSetting_170 : decode cX2_readSetting 170 = .ok (.invokevirtual 102, 3) := by decide +kernel
theorem dX2_readSetting_173 : decode cX2_readSetting 173 = .ok (.putfield 120, 3) := by decide +kernel
theorem dX2_readSetting_176 : decode cX2_readSetting 176 = .ok (.aload_n 0, 1) := by decide +kernel
theorem dX2_readSetting_177 : decode cX2_readSetting 177 = .ok (.getfield 43, 3) := by decide +kernel
theorem dX2_readSetting_180 : decode cX2_readSetting 180 = .ok (.getfield 120, 3) := by decide +kernel
theorem dX2_readSetting_183 : decode cX2_readSetting 183 = .ok (.ifCond .lt 7, 3) := by decide +kernel
theorem dX2_readSetting_186 : decode cX2_readSetting 186 = .ok (.iconst 1, 1) := by decide +kernel
theorem dX2_readSetting_187 : decode cX2_readSetting 187 = .ok (.goto 4, 3) := by decide +kernel
theorem dX2_readSetting_190 : decode cX2_readSetting 190 = .ok (.iconst 0, 1) := by decide +kernel
theorem dX2_readSetting_191 : decode cX2_readSetting 191 = .ok (.ireturn, 1) := by decide +kernel
theorem dX2_readSetting_192 : decode cX2_readSetting 192 = .ok (.aload_n 0, 1) := by decide +kernel
theorem dX2_readSetting_193 : decode cX2_readSetting 193 = .ok (.getfield 43, 3) := by decide +kernel
theorem dX2_readSetting_196 : decode cX2_readSetting 196 = .ok (.aload_n 0, 1) := by decide +kernel
theorem dX2_readSetting_197 : decode cX2_readSetting 197 = .ok (.iconst 0, 1) := by decide +kernel
theorem dX2_readSetting_198 : decode cX2_readSetting 198 = .ok (.ldc 123, 2) := by decide +kernel
theorem dX2_readSetting_200 : decode cX2_readSetting 200 = .ok (.invokevirtual 102, 3) := by decide +kernel
theorem dX2_readSetting_203 : decode cX2_readSetting 203 = .ok (.putfield 124, 3) := by decide +kernel
theorem dX2_readSetting_206 : decode cX2_readSetting 206 = .ok (.aload_n 0, 1) := by decide +kernel
theorem dX2_readSetting_207 : decode cX2_readSetting 207 = .ok (.getfield 43, 3) := by decide +kernel
theorem dX2_readSetting_210 : decode cX2_readSetting 210 = .ok (.getfield 124, 3) := by decide +kernel
theorem dX2_readSetting_213 : decode cX2_readSetting 213 = .ok (.ifCond .lt 7, 3) := by decide +kernel
theorem dX2_readSetting_216 : decode cX2_readSetting 216 = .ok (.iconst 1, 1) := by decide +kernel
theorem dX2_readSetting_217 : decode cX2_readSetting 217 = .ok (.goto 4, 3) := by decide +kernel
theorem dX2_readSetting_220 : decode cX2_readSetting 220 = .ok (.iconst 0, 1) := by decide +kernel
theorem dX2_readSetting_221 : decode cX2_readSetting 221 = .ok (.ireturn, 1) := by decide +kernel
def Re_readSetting_21 (v1 : Int32) (d : Mem) : Option (Int32 × Mem) :=
  if (((d 0 2 8) >>> (v1 &&& 31)) &&& (1 : Int32)) = 0 then
    (bnd (wrM d 0 2 8 ((d 0 2 8) ||| ((1 : Int32) <<< (v1 &&& 31)))) fun d1 =>
    if v1 = (3 : Int32) then
      (bd (Re_takeNumber d1 (8 : Int32) (32 : Int32)) fun r17 d18 =>
      bnd r17 fun v2_19 =>
      if v2_19 = (-1 : Int32) then
        (some ((0 : Int32), d18))
      else
        (gref (d18 0 2 10) fun u20 =>
        bnd (wrM d18 u20 4 6 v2_19) fun d21 =>
        if v2_19 = (8 : Int32) then
          (some ((1 : Int32), d21))
        else
          (if v2_19 = (16 : Int32) then
            (some ((1 : Int32), d21))
          else
            (if v2_19 = (32 : Int32) then
              (some ((1 : Int32), d21))
            else
              (bd (Re_fail d21 (2 : Int32)) fun r22 d23 =>
              if r22 = 0 then
                (some ((0 : Int32), d23))
              else
                (some ((1 : Int32), d23)))))))
    else
      (if v1 = (4 : Int32) then
        (gref (d1 0 2 10) fun u12 =>
        bd (Re_takeNumber d1 (0 : Int32) (9 : Int32)) fun r13 d14 =>
        bnd (wrM d14 u12 4 7 r13) fun d15 =>
        gref (d15 0 2 10) fun u16 =>
        if (d15 u16 4 7) < 0 then
          (some ((0 : Int32), d15))
        else
          (some ((1 : Int32), d15)))
      else
        (if v1 = (5 : Int32) then
          (gref (d1 0 2 10) fun u7 =>
          bd (Re_takeNumber d1 (1 : Int32) (9 : Int32)) fun r8 d9 =>
          bnd (wrM d9 u7 4 8 r8) fun d10 =>
          gref (d10 0 2 10) fun u11 =>
          if (d10 u11 4 8) < 0 then
            (some ((0 : Int32), d10))
          else
            (some ((1 : Int32), d10)))
        else
          (gref (d1 0 2 10) fun u2 =>
          bd (Re_takeNumber d1 (0 : Int32) (99999 : Int32)) fun r3 d4 =>
          bnd (wrM d4 u2 4 9 r3) fun d5 =>
          gref (d5 0 2 10) fun u6 =>
          if (d5 u6 4 9) < 0 then
            (some ((0 : Int32), d5))
          else
            (some ((1 : Int32), d5))))))
  else
    (bd (Re_fail d (3 : Int32)) fun r24 d25 =>
    if r24 = 0 ∨ r24 = 1 then some (r24, d25) else none)
def Re_readSetting (d : Mem) (a1 : Int32) : Option (Int32 × Mem) :=
  if a1 = (3 : Int32) then
    (gref (d 0 2 10) fun u26 =>
    if (d u26 4 10) ≤ 0 then
      (Re_readSetting_21 a1 d)
    else
      (bd (Re_fail d (1 : Int32)) fun r27 d28 =>
      if r27 = 0 ∨ r27 = 1 then some (r27, d28) else none))
  else
    (Re_readSetting_21 a1 d)
theorem y_X2_readSetting : YV yX2_readSetting cX2_readSetting 3 (some .boolean) 1 := ⟨q551, q10, q552, q145, by decide +kernel, by decide +kernel, by decide +kernel, by decide +kernel⟩
theorem r_Re_readSetting_21 {C : Cxt} {G : Geo} (hC : Cx C cX2_readSetting 3 "FrameHeirs$Reader" (some .boolean) rm_X2_readSetting G) (hcl : GCl G) (hX : LXx G) (hT : LSt G) (v1 : Int32) (d : Mem) : Rz C 3 G gm (poM avI gm) 21 [(0, .inr (0, 2)), (1, .inl (.int v1))] [] d (Re_readSetting_21 v1 d) := by
  unfold Re_readSetting_21
  refine z_aload_n (pc := 21) hC 0 rfl 0 rfl dX2_readSetting_21 ?_
  refine zg_geti (pc := 22) hC (hX 2 rfl) f_2_8 q252 dX2_readSetting_22 ?_
  refine z_iload_n (pc := 25) hC 1 rfl 1 rfl dX2_readSetting_25 ?_
  refine z_ishr (pc := 26) hC dX2_readSetting_26 ?_
  refine z_iconst (pc := 27) hC (1 : Int32) rfl dX2_readSetting_27 ?_
  refine z_iand (pc := 28) hC dX2_readSetting_28 ?_
  refine z_if_eq (pc := 29) hC 38 rfl dX2_readSetting_29 ?_ ?_
  · refine z_aload_n (pc := 38) hC 0 rfl 0 rfl dX2_readSetting_38 ?_
    refine z_dup (pc := 39) hC rfl dX2_readSetting_39 ?_
    refine zg_geti (pc := 40) hC (hX 2 rfl) f_2_8 q252 dX2_readSetting_40 ?_
    refine z_iconst (pc := 43) hC (1 : Int32) rfl dX2_readSetting_43 ?_
    refine z_iload_n (pc := 44) hC 1 rfl 1 rfl dX2_readSetting_44 ?_
    refine z_ishl (pc := 45) hC dX2_readSetting_45 ?_
    refine z_ior (pc := 46) hC dX2_readSetting_46 ?_
    refine zg_puti (pc := 47) hC (hX 2 rfl) f_2_8 q252 dX2_readSetting_47 (fun d1 => ?_)
    refine z_iload_n (pc := 50) hC 1 rfl 1 rfl dX2_readSetting_50 ?_
    refine z_ite (fun e => ?_) (fun e0 => ?_)
    · refine z_tswIn (pc := 51) hC 3 76 (by rw [e]; rfl) (by decide) (by decide) rfl rfl dX2_readSetting_51 ?_
      refine z_aload_n (pc := 76) hC 0 rfl 0 rfl dX2_readSetting_76 ?_
      refine z_bipush (pc := 77) hC (8 : Int32) rfl dX2_readSetting_77 ?_
      refine z_bipush (pc := 79) hC (32 : Int32) rfl dX2_readSetting_79 ?_
      refine z_ciV (pc := 81) (st := []) hC y_X2_takeNumber q541 [.inl (.int (8 : Int32)), .inl (.int (32 : Int32))] rfl (hX 2 rfl) rfl rfl (c_X2_takeNumber hC.2.2.2.2.2.2.1 hcl hX hT) rfl ⟨rfl, rfl, (Nat.le_of_ble_eq_true rfl), (Nat.le_of_ble_eq_true rfl)⟩ (Nat.le_of_ble_eq_true rfl) dX2_readSetting_81 (fun r17 d18 => ?_)
      refine z_istore_n (pc := 84) (ls1 := fun v => [(2, .inl (.int v)), (0, .inr (0, 2)), (1, .inl (.int v1))]) hC 2 rfl (by decide) (fun v => rfl) dX2_readSetting_84 (fun v2_19 => ?_)
      refine z_iload_n (pc := 85) hC 2 rfl 0 rfl dX2_readSetting_85 ?_
      refine z_iconst (pc := 86) hC (-1 : Int32) rfl dX2_readSetting_86 ?_
      refine z_icmp_ne (pc := 87) hC 92 rfl dX2_readSetting_87 ?_ ?_
      · refine z_aload_n (pc := 92) hC 0 rfl 1 rfl dX2_readSetting_92 ?_
        refine zg_getS (pc := 93) hC hcl (hX 2 rfl) f_2_10 q254 dX2_readSetting_93 (fun u20 hu20 gu20 => ?_)
        refine z_iload_n (pc := 96) hC 2 rfl 0 rfl dX2_readSetting_96 ?_
        refine zg_puti (pc := 97) hC (hu20 4 rfl) f_4_6 q192 dX2_readSetting_97 (fun d21 => ?_)
        refine z_iload_n (pc := 100) hC 2 rfl 0 rfl dX2_readSetting_100 ?_
        refine z_bipush (pc := 101) hC (8 : Int32) rfl dX2_readSetting_101 ?_
        refine z_icmp_eq (pc := 103) hC 126 rfl dX2_readSetting_103 ?_ ?_
        · refine z_iconst (pc := 126) hC (1 : Int32) rfl dX2_readSetting_126 ?_
          refine z_goto (pc := 127) hC 131 rfl dX2_readSetting_127 ?_
          exact z_zret (pc := 131) hC rfl rfl dX2_readSetting_131
        · refine z_iload_n (pc := 106) hC 2 rfl 0 rfl dX2_readSetting_106 ?_
          refine z_bipush (pc := 107) hC (16 : Int32) rfl dX2_readSetting_107 ?_
          refine z_icmp_eq (pc := 109) hC 126 rfl dX2_readSetting_109 ?_ ?_
          · refine z_iconst (pc := 126) hC (1 : Int32) rfl dX2_readSetting_126 ?_
            refine z_goto (pc := 127) hC 131 rfl dX2_readSetting_127 ?_
            exact z_zret (pc := 131) hC rfl rfl dX2_readSetting_131
          · refine z_iload_n (pc := 112) hC 2 rfl 0 rfl dX2_readSetting_112 ?_
            refine z_bipush (pc := 113) hC (32 : Int32) rfl dX2_readSetting_113 ?_
            refine z_icmp_eq (pc := 115) hC 126 rfl dX2_readSetting_115 ?_ ?_
            · refine z_iconst (pc := 126) hC (1 : Int32) rfl dX2_readSetting_126 ?_
              refine z_goto (pc := 127) hC 131 rfl dX2_readSetting_127 ?_
              exact z_zret (pc := 131) hC rfl rfl dX2_readSetting_131
            · refine z_aload_n (pc := 118) hC 0 rfl 1 rfl dX2_readSetting_118 ?_
              refine z_iconst (pc := 119) hC (2 : Int32) rfl dX2_readSetting_119 ?_
              refine z_ciV (pc := 120) (st := []) hC y_X2_fail q517 [.inl (.int (2 : Int32))] rfl (hX 2 rfl) rfl rfl (c_X2_fail hC.2.2.2.2.2.2.1 hcl hX hT) rfl ⟨rfl, rfl, (Nat.le_of_ble_eq_true rfl), (Nat.le_of_ble_eq_true rfl)⟩ (Nat.le_of_ble_eq_true rfl) dX2_readSetting_120 (fun r22 d23 => ?_)
              refine z_if_eq (pc := 123) hC 130 rfl dX2_readSetting_123 ?_ ?_
              · refine z_iconst (pc := 130) hC (0 : Int32) rfl dX2_readSetting_130 ?_
                exact z_zret (pc := 131) hC rfl rfl dX2_readSetting_131
              · refine z_iconst (pc := 126) hC (1 : Int32) rfl dX2_readSetting_126 ?_
                refine z_goto (pc := 127) hC 131 rfl dX2_readSetting_127 ?_
                exact z_zret (pc := 131) hC rfl rfl dX2_readSetting_131
      · refine z_iconst (pc := 90) hC (0 : Int32) rfl dX2_readSetting_90 ?_
        exact z_zret (pc := 91) hC rfl rfl dX2_readSetting_91
    · refine z_ite (fun e => ?_) (fun e1 => ?_)
      · refine z_tswIn (pc := 51) hC 4 132 (by rw [e]; rfl) (by decide) (by decide) rfl rfl dX2_readSetting_51 ?_
        refine z_aload_n (pc := 132) hC 0 rfl 0 rfl dX2_readSetting_132 ?_
        refine zg_getS (pc := 133) hC hcl (hX 2 rfl) f_2_10 q254 dX2_readSetting_133 (fun u12 hu12 gu12 => ?_)
        refine z_aload_n (pc := 136) hC 0 rfl 0 rfl dX2_readSetting_136 ?_
        refine z_iconst (pc := 137) hC (0 : Int32) rfl dX2_readSetting_137 ?_
        refine z_bipush (pc := 138) hC (9 : Int32) rfl dX2_readSetting_138 ?_
        refine z_ciV (pc := 140) (st := [.inr (u12, 4)]) hC y_X2_takeNumber q541 [.inl (.int (0 : Int32)), .inl (.int (9 : Int32))] rfl (hX 2 rfl) rfl rfl (c_X2_takeNumber hC.2.2.2.2.2.2.1 hcl hX hT) rfl ⟨rfl, rfl, (Nat.le_of_ble_eq_true rfl), (Nat.le_of_ble_eq_true rfl)⟩ (Nat.le_of_ble_eq_true rfl) dX2_readSetting_140 (fun r13 d14 => ?_)
        refine zg_puti (pc := 143) hC (hu12 4 rfl) f_4_7 q195 dX2_readSetting_143 (fun d15 => ?_)
        refine z_aload_n (pc := 146) hC 0 rfl 0 rfl dX2_readSetting_146 ?_
        refine zg_getS (pc := 147) hC hcl (hX 2 rfl) f_2_10 q254 dX2_readSetting_147 (fun u16 hu16 gu16 => ?_)
        refine zg_geti (pc := 150) hC (hu16 4 rfl) f_4_7 q195 dX2_readSetting_150 ?_
        refine z_if_lt (pc := 153) hC 160 rfl dX2_readSetting_153 ?_ ?_
        · refine z_iconst (pc := 160) hC (0 : Int32) rfl dX2_readSetting_160 ?_
          exact z_zret (pc := 161) hC rfl rfl dX2_readSetting_161
        · refine z_iconst (pc := 156) hC (1 : Int32) rfl dX2_readSetting_156 ?_
          refine z_goto (pc := 157) hC 161 rfl dX2_readSetting_157 ?_
          exact z_zret (pc := 161) hC rfl rfl dX2_readSetting_161
      · refine z_ite (fun e => ?_) (fun e2 => ?_)
        · refine z_tswIn (pc := 51) hC 5 162 (by rw [e]; rfl) (by decide) (by decide) rfl rfl dX2_readSetting_51 ?_
          refine z_aload_n (pc := 162) hC 0 rfl 0 rfl dX2_readSetting_162 ?_
          refine zg_getS (pc := 163) hC hcl (hX 2 rfl) f_2_10 q254 dX2_readSetting_163 (fun u7 hu7 gu7 => ?_)
          refine z_aload_n (pc := 166) hC 0 rfl 0 rfl dX2_readSetting_166 ?_
          refine z_iconst (pc := 167) hC (1 : Int32) rfl dX2_readSetting_167 ?_
          refine z_bipush (pc := 168) hC (9 : Int32) rfl dX2_readSetting_168 ?_
          refine z_ciV (pc := 170) (st := [.inr (u7, 4)]) hC y_X2_takeNumber q541 [.inl (.int (1 : Int32)), .inl (.int (9 : Int32))] rfl (hX 2 rfl) rfl rfl (c_X2_takeNumber hC.2.2.2.2.2.2.1 hcl hX hT) rfl ⟨rfl, rfl, (Nat.le_of_ble_eq_true rfl), (Nat.le_of_ble_eq_true rfl)⟩ (Nat.le_of_ble_eq_true rfl) dX2_readSetting_170 (fun r8 d9 => ?_)
          refine zg_puti (pc := 173) hC (hu7 4 rfl) f_4_8 q198 dX2_readSetting_173 (fun d10 => ?_)
          refine z_aload_n (pc := 176) hC 0 rfl 0 rfl dX2_readSetting_176 ?_
          refine zg_getS (pc := 177) hC hcl (hX 2 rfl) f_2_10 q254 dX2_readSetting_177 (fun u11 hu11 gu11 => ?_)
          refine zg_geti (pc := 180) hC (hu11 4 rfl) f_4_8 q198 dX2_readSetting_180 ?_
          refine z_if_lt (pc := 183) hC 190 rfl dX2_readSetting_183 ?_ ?_
          · refine z_iconst (pc := 190) hC (0 : Int32) rfl dX2_readSetting_190 ?_
            exact z_zret (pc := 191) hC rfl rfl dX2_readSetting_191
          · refine z_iconst (pc := 186) hC (1 : Int32) rfl dX2_readSetting_186 ?_
            refine z_goto (pc := 187) hC 191 rfl dX2_readSetting_187 ?_
            exact z_zret (pc := 191) hC rfl rfl dX2_readSetting_191
        · have e0_ : (v1).toInt ≠ 3 := fun h => e0 (Int32.toInt_inj.mp (by rw [h]; rfl))
          have e1_ : (v1).toInt ≠ 4 := fun h => e1 (Int32.toInt_inj.mp (by rw [h]; rfl))
          have e2_ : (v1).toInt ≠ 5 := fun h => e2 (Int32.toInt_inj.mp (by rw [h]; rfl))
          refine z_tswOut (pc := 51) hC 192 (by omega) rfl dX2_readSetting_51 ?_
          refine z_aload_n (pc := 192) hC 0 rfl 0 rfl dX2_readSetting_192 ?_
          refine zg_getS (pc := 193) hC hcl (hX 2 rfl) f_2_10 q254 dX2_readSetting_193 (fun u2 hu2 gu2 => ?_)
          refine z_aload_n (pc := 196) hC 0 rfl 0 rfl dX2_readSetting_196 ?_
          refine z_iconst (pc := 197) hC (0 : Int32) rfl dX2_readSetting_197 ?_
          refine z_ldc (pc := 198) hC (99999 : Int32) q553 dX2_readSetting_198 ?_
          refine z_ciV (pc := 200) (st := [.inr (u2, 4)]) hC y_X2_takeNumber q541 [.inl (.int (0 : Int32)), .inl (.int (99999 : Int32))] rfl (hX 2 rfl) rfl rfl (c_X2_takeNumber hC.2.2.2.2.2.2.1 hcl hX hT) rfl ⟨rfl, rfl, (Nat.le_of_ble_eq_true rfl), (Nat.le_of_ble_eq_true rfl)⟩ (Nat.le_of_ble_eq_true rfl) dX2_readSetting_200 (fun r3 d4 => ?_)
          refine zg_puti (pc := 203) hC (hu2 4 rfl) f_4_9 q201 dX2_readSetting_203 (fun d5 => ?_)
          refine z_aload_n (pc := 206) hC 0 rfl 0 rfl dX2_readSetting_206 ?_
          refine zg_getS (pc := 207) hC hcl (hX 2 rfl) f_2_10 q254 dX2_readSetting_207 (fun u6 hu6 gu6 => ?_)
          refine zg_geti (pc := 210) hC (hu6 4 rfl) f_4_9 q201 dX2_readSetting_210 ?_
          refine z_if_lt (pc := 213) hC 220 rfl dX2_readSetting_213 ?_ ?_
          · refine z_iconst (pc := 220) hC (0 : Int32) rfl dX2_readSetting_220 ?_
            exact z_zret (pc := 221) hC rfl rfl dX2_readSetting_221
          · refine z_iconst (pc := 216) hC (1 : Int32) rfl dX2_readSetting_216 ?_
            refine z_goto (pc := 217) hC 221 rfl dX2_readSetting_217 ?_
            exact z_zret (pc := 221) hC rfl rfl dX2_readSetting_221
  · refine z_aload_n (pc := 32) hC 0 rfl 0 rfl dX2_readSetting_32 ?_
    refine z_iconst (pc := 33) hC (3 : Int32) rfl dX2_readSetting_33 ?_
    refine z_ciV (pc := 34) (st := []) hC y_X2_fail q517 [.inl (.int (3 : Int32))] rfl (hX 2 rfl) rfl rfl (c_X2_fail hC.2.2.2.2.2.2.1 hcl hX hT) rfl ⟨rfl, rfl, (Nat.le_of_ble_eq_true rfl), (Nat.le_of_ble_eq_true rfl)⟩ (Nat.le_of_ble_eq_true rfl) dX2_readSetting_34 (fun r24 d25 => ?_)
    exact z_zretG (pc := 37) hC rfl dX2_readSetting_37
theorem r_Re_readSetting {C : Cxt} {G : Geo} (hC : Cx C cX2_readSetting 3 "FrameHeirs$Reader" (some .boolean) rm_X2_readSetting G) (hcl : GCl G) (hX : LXx G) (hT : LSt G) (d : Mem) (a1 : Int32) : Rz C 3 G gm (poM avI gm) 0 [(0, .inr (0, 2)), (1, .inl (.int a1))] [] d (Re_readSetting d a1) := by
  unfold Re_readSetting
  refine z_iload_n (pc := 0) hC 1 rfl 1 rfl dX2_readSetting_0 ?_
  refine z_iconst (pc := 1) hC (3 : Int32) rfl dX2_readSetting_1 ?_
  refine z_icmp_ne (pc := 2) hC 21 rfl dX2_readSetting_2 ?_ ?_
  · exact z_sub [0, 1] rfl (r_Re_readSetting_21 hC hcl hX hT a1 d)
  · refine z_aload_n (pc := 5) hC 0 rfl 0 rfl dX2_readSetting_5 ?_
    refine zg_getS (pc := 6) hC hcl (hX 2 rfl) f_2_10 q254 dX2_readSetting_6 (fun u26 hu26 gu26 => ?_)
    refine zg_geti (pc := 9) hC (hu26 4 rfl) f_4_10 q204 dX2_readSetting_9 ?_
    refine z_if_le (pc := 12) hC 21 rfl dX2_readSetting_12 ?_ ?_
    · exact z_sub [0, 1] rfl (r_Re_readSetting_21 hC hcl hX hT a1 d)
    · refine z_aload_n (pc := 15) hC 0 rfl 0 rfl dX2_readSetting_15 ?_
      refine z_iconst (pc := 16) hC (1 : Int32) rfl dX2_readSetting_16 ?_
      refine z_ciV (pc := 17) (st := []) hC y_X2_fail q517 [.inl (.int (1 : Int32))] rfl (hX 2 rfl) rfl rfl (c_X2_fail hC.2.2.2.2.2.2.1 hcl hX hT) rfl ⟨rfl, rfl, (Nat.le_of_ble_eq_true rfl), (Nat.le_of_ble_eq_true rfl)⟩ (Nat.le_of_ble_eq_true rfl) dX2_readSetting_17 (fun r27 d28 => ?_)
      exact z_zretG (pc := 20) hC rfl dX2_readSetting_20
theorem c_X2_readSetting {G : Geo} (hG : GOk G) (hcl : GCl G) (hX : LXx G) (hT : LSt G) {d : Mem} {a1 : Int32} (l : Launch) (r : Int32) (d1 : Mem) (h : Re_readSetting d a1 = some (r, d1)) : Mt l yX2_readSetting cX2_readSetting 3 (some .boolean) rm_X2_readSetting G [.inr (0, 2), .inl (.int a1)] (gm d) (avI r) (gm d1) :=
  mt_of (mem := gm) (po := poM avI gm) (x0 := d) (t := (r, d1)) rfl hG [.inr (0, 2), .inl (.int a1)] (Nat.le_of_ble_eq_true rfl) rfl (fun C hC => r_Re_readSetting hC hcl hX hT d a1) h
-- FrameHeirs$Reader.readStep(I)Z
abbrev rm_X2_readStep : Room := { frames := 4, cells := 0, slots := 0, locals := 85 }
theorem dX2_readStep_0 : decode cX2_readStep 0 = .ok (.aload_n 0, 1) := by decide +kernel
theorem dX2_readStep_1 : decode cX2_readStep 1 = .ok (.getfield 43, 3) := by decide +kernel
theorem dX2_readStep_4 : decode cX2_readStep 4 = .ok (.getfield 111, 3) := by decide +kernel
theorem dX2_readStep_7 : decode cX2_readStep 7 = .ok (.bipush 24, 2) := by decide +kernel
theorem dX2_readStep_9 : decode cX2_readStep 9 = .ok (.if_icmp .lt 9, 3) := by decide +kernel
theorem dX2_readStep_12 : decode cX2_readStep 12 = .ok (.aload_n 0, 1) := by decide +kernel
theorem dX2_readStep_13 : decode cX2_readStep 13 = .ok (.iconst 2, 1) := by decide +kernel
theorem dX2_readStep_14 : decode cX2_readStep 14 = .ok (.invokevirtual 61, 3) := by decide +kernel
theorem dX2_readStep_17 : decode cX2_readStep 17 = .ok (.ireturn, 1) := by decide +kernel
theorem dX2_readStep_18 : decode cX2_readStep 18 = .ok (.iload_n 1, 1) := by decide +kernel
theorem dX2_readStep_19 : decode cX2_readStep 19 = .ok (.invokestatic 127, 3) := by decide +kernel
theorem dX2_readStep_22 : decode cX2_readStep 22 = .ok (.astore_n 2, 1) := by decide +kernel
theorem dX2_readStep_23 : decode cX2_readStep 23 = .ok (.aload_n 0, 1) := by decide +kernel
theorem dX2_readStep_24 : decode cX2_readStep 24 = .ok (.getfield 43, 3) := by decide +kernel
theorem dX2_readStep_27 : decode cX2_readStep 27 = .ok (.getfield 111, 3) := by decide +kernel
theorem dX2_readStep_30 : decode cX2_readStep 30 = .ok (.bipush 7, 2) := by decide +kernel
theorem dX2_readStep_32 : decode cX2_readStep 32 = .ok (.imul, 1) := by decide +kernel
theorem dX2_readStep_33 : decode cX2_readStep 33 = .ok (.istore_n 3, 1) := by decide +kernel
theorem dX2_readStep_34 : decode cX2_readStep 34 = .ok (.aload_n 0, 1) := by decide +kernel
theorem dX2_readStep_35 : decode cX2_readStep 35 = .ok (.getfield 43, 3) := by decide +kernel
theorem dX2_readStep_38 : decode cX2_readStep 38 = .ok (.getfield 131, 3) := by decide +kernel
theorem dX2_readStep_41 : decode cX2_readStep 41 = .ok (.iload_n 3, 1) := by decide +kernel
theorem dX2_readStep_42 : decode cX2_readStep 42 = .ok (.iload_n 1, 1) := by decide +kernel
theorem dX2_readStep_43 : decode cX2_readStep 43 = .ok (.iastore, 1) := by decide +kernel
theorem dX2_readStep_44 : decode cX2_readStep 44 = .ok (.iconst 0, 1) := by decide +kernel
theorem dX2_readStep_45 : decode cX2_readStep 45 = .ok (.istore 4, 2) := by decide +kernel
theorem dX2_readStep_47 : decode cX2_readStep 47 = .ok (.iload 4, 2) := by decide +kernel
theorem dX2_readStep_49 : decode cX2_readStep 49 = .ok (.aload_n 2, 1) := by decide +kernel
theorem dX2_readStep_50 : decode cX2_readStep 50 = .ok (.arraylength, 1) := by decide +kernel
theorem dX2_readStep_51 : decode cX2_readStep 51 = .ok (.if_icmp .ge 77, 3) := by decide +kernel
theorem dX2_readStep_54 : decode cX2_readStep 54 = .ok (.iload 4, 2) := by decide +kernel
theorem dX2_readStep_56 : decode cX2_readStep 56 = .ok (.iconst 1, 1) := by decide +kernel
theorem dX2_readStep_57 : decode cX2_readStep 57 = .ok (.iadd, 1) := by decide +kernel
theorem dX2_readStep_58 : decode cX2_readStep 58 = .ok (.bipush 7, 2) := by decide +kernel
theorem dX2_readStep_60 : decode cX2_readStep 60 = .ok (.if_icmp .ge 68, 3) := by decide +kernel
theorem dX2_readStep_63 : decode cX2_readStep 63 = .ok (.aload_n 2, 1) := by decide +kernel
theorem dX2_readStep_64 : decode cX2_readStep 64 = .ok (.iload 4, 2) := by decide +kernel
theorem dX2_readStep_66 : decode cX2_readStep 66 = .ok (.iaload, 1) := by decide +kernel
theorem dX2_readStep_67 : decode cX2_readStep 67 = .ok (.istore 5, 2) := by decide +kernel
theorem dX2_readStep_69 : decode cX2_readStep 69 = .ok (.iload 5, 2) := by decide +kernel
theorem dX2_readStep_71 : decode cX2_readStep 71 = .ok (.ifCond .ne 10, 3) := by decide +kernel
theorem dX2_readStep_74 : decode cX2_readStep 74 = .ok (.aload_n 0, 1) := by decide +kernel
theorem dX2_readStep_75 : decode cX2_readStep 75 = .ok (.invokevirtual 95, 3) := by decide +kernel
theorem dX2_readStep_78 : decode cX2_readStep 78 = .ok (.goto 19, 3) := by decide +kernel
theorem dX2_readStep_81 : decode cX2_readStep 81 = .ok (.aload_n 0, 1) := by decide +kernel
theorem dX2_readStep_82 : decode cX2_readStep 82 = .ok (.getstatic 134, 3) := by decide +kernel
theorem dX2_readStep_85 : decode cX2_readStep 85 = .ok (.iload 5, 2) := by decide +kernel
theorem dX2_readStep_87 : decode cX2_readStep 87 = .ok (.iaload, 1) := by decide +kernel
theorem dX2_readStep_88 : decode cX2_readStep 88 = .ok (.getstatic 137, 3) := by decide +kernel
theorem dX2_readStep_91 : decode cX2_readStep 91 = .ok (.iload 5, 2) := by decide +kernel
theorem dX2_readStep_93 : decode cX2_readStep 93 = .ok (.iaload, 1) := by decide +kernel
theorem dX2_readStep_94 : decode cX2_readStep 94 = .ok (.invokevirtual 102, 3) := by decide +kernel
theorem dX2_readStep_97 : decode cX2_readStep 97 = .ok (.istore 6, 2) := by decide +kernel
theorem dX2_readStep_99 : decode cX2_readStep 99 = .ok (.iload 6, 2) := by decide +kernel
theorem dX2_readStep_101 : decode cX2_readStep 101 = .ok (.ifCond .ge 5, 3) := by decide +kernel
theorem dX2_readStep_104 : decode cX2_readStep 104 = .ok (.iconst 0, 1) := by decide +kernel
theorem dX2_readStep_105 : decode cX2_readStep 105 = .ok (.ireturn, 1) := by decide +kernel
theorem dX2_readStep_106 : decode cX2_readStep 106 = .ok (.aload_n 0, 1) := by decide +kernel
theorem dX2_readStep_107 : decode cX2_readStep 107 = .ok (.getfield 43, 3) := by decide +kernel
theorem dX2_readStep_110 : decode cX2_readStep 110 = .ok (.getfield 131, 3) := by decide +kernel
theorem dX2_readStep_113 : decode cX2_readStep 113 = .ok (.iload_n 3, 1) := by decide +kernel
theorem dX2_readStep_114 : decode cX2_readStep 114 = .ok (.iconst 1, 1) := by decide +kernel
theorem dX2_readStep_115 : decode cX2_readStep 115 = .ok (.iadd, 1) := by decide +kernel
theorem dX2_readStep_116 : decode cX2_readStep 116 = .ok (.iload 4, 2) := by decide +kernel
theorem dX2_readStep_118 : decode cX2_readStep 118 = .ok (.iadd, 1) := by decide +kernel
theorem dX2_readStep_119 : decode cX2_readStep 119 = .ok (.iload 6, 2) := by decide +kernel
theorem dX2_readStep_121 : decode cX2_readStep 121 = .ok (.iastore, 1) := by decide +kernel
theorem dX2_readStep_122 : decode cX2_readStep 122 = .ok (.iinc 4 1, 3) := by decide +kernel
theorem dX2_readStep_125 : decode cX2_readStep 125 = .ok (.goto (-78), 3) := by decide +kernel
theorem dX2_readStep_128 : decode cX2_readStep 128 = .ok (.aload_n 0, 1) := by decide +kernel
theorem dX2_readStep_129 : decode cX2_readStep 129 = .ok (.getfield 43, 3) := by decide +kernel
theorem dX2_readStep_132 : decode cX2_readStep 132 = .ok (.dup, 1) := by decide +kernel
theorem dX2_readStep_133 : decode cX2_readStep 133 = .ok (.getfield 111, 3) := by decide +kernel
theorem dX2_readStep_136 : decode cX2_readStep 136 = .ok (.iconst 1, 1) := by decide +kernel
theorem dX2_readStep_137 : decode cX2_readStep 137 = .ok (.iadd, 1) := by decide +kernel
theorem dX2_readStep_138 : decode cX2_readStep 138 = .ok (.putfield 111, 3) := by decide +kernel
theorem dX2_readStep_141 : decode cX2_readStep 141 = .ok (.iconst 1, 1) := by decide +kernel
theorem dX2_readStep_142 : decode cX2_readStep 142 = .ok (.ireturn, 1) := by decide +kernel
def Re_readStep_128 (d : Mem) : Option (Int32 × Mem) :=
  gref (d 0 2 10) fun u1 =>
  bnd (wrM d u1 4 10 ((d u1 4 10) + (1 : Int32))) fun d2 =>
  some ((1 : Int32), d2)
def Re_readStep_97 (k47 : (Nat × Nat) → Int32 → Int32 → Mem → Option (Int32 × Mem)) (f2 : (Nat × Nat)) (v3 : Int32) (v4 : Int32) (s0 : Int32) (d : Mem) : Option (Int32 × Mem) :=
  bnd s0 fun v6_3 =>
  if 0 ≤ v6_3 then
    (gref (d 0 2 10) fun u4 =>
    if inb ((v3 + (1 : Int32)) + v4) 168 then
    bnd (wrM d u4 9 (ix ((v3 + (1 : Int32)) + v4)) v6_3) fun d5 =>
    bnd (v4 + (1 : Int32)) fun v4_6 =>
    k47 f2 v3 v4_6 d5
    else none)
  else
    (some ((0 : Int32), d))
def Re_readStep_47 : Nat → (Nat × Nat) → Int32 → Int32 → Mem → Option (Int32 × Mem)
  | 0, _, _, _, _ => none
  | n + 1, f2, v3, v4, d =>
    if (Int32.ofNat f2.2) ≤ v4 then
      (Re_readStep_128 d)
    else
      (if (7 : Int32) ≤ (v4 + (1 : Int32)) then
        (Re_readStep_128 d)
      else
        (if inb v4 f2.2 then
        bnd (d 0 f2.1 (ix v4)) fun v5_7 =>
        if v5_7 = 0 then
          (bd (Re_takeSpace d) fun r10 d11 =>
          Re_readStep_97 (Re_readStep_47 n) f2 v3 v4 r10 d11)
        else
          (if inb v5_7 6 then
          if inb v5_7 6 then
          bd (Re_takeNumber d (d 0 49 (ix v5_7)) (d 0 50 (ix v5_7))) fun r8 d9 =>
          Re_readStep_97 (Re_readStep_47 n) f2 v3 v4 r8 d9
          else none
          else none)
        else none))
def Re_readStep (d : Mem) (a1 : Int32) : Option (Int32 × Mem) :=
  gref (d 0 2 10) fun u12 =>
  if (d u12 4 10) < (24 : Int32) then
    (bp (Re_formOf a1) fun r13 =>
    gref (d 0 2 10) fun u14 =>
    bnd ((d u14 4 10) * (7 : Int32)) fun v3_15 =>
    gref (d 0 2 10) fun u16 =>
    if inb v3_15 168 then
    bnd (wrM d u16 9 (ix v3_15) a1) fun d17 =>
    bnd (0 : Int32) fun v4_18 =>
    Re_readStep_47 FU r13 v3_15 v4_18 d17
    else none)
  else
    (bd (Re_fail d (2 : Int32)) fun r19 d20 =>
    if r19 = 0 ∨ r19 = 1 then some (r19, d20) else none)
theorem y_X2_readStep : YV yX2_readStep cX2_readStep 7 (some .boolean) 1 := ⟨q556, q11, q557, q145, by decide +kernel, by decide +kernel, by decide +kernel, by decide +kernel⟩
theorem r_Re_readStep_128 {C : Cxt} {G : Geo} (hC : Cx C cX2_readStep 7 "FrameHeirs$Reader" (some .boolean) rm_X2_readStep G) (hcl : GCl G) (hX : LXx G) (hT : LSt G) (d : Mem) : Rz C 7 G gm (poM avI gm) 128 [(0, .inr (0, 2))] [] d (Re_readStep_128 d) := by
  unfold Re_readStep_128
  refine z_aload_n (pc := 128) hC 0 rfl 0 rfl dX2_readStep_128 ?_
  refine zg_getS (pc := 129) hC hcl (hX 2 rfl) f_2_10 q254 dX2_readStep_129 (fun u1 hu1 gu1 => ?_)
  refine z_dup (pc := 132) hC rfl dX2_readStep_132 ?_
  refine zg_geti (pc := 133) hC (hu1 4 rfl) f_4_10 q204 dX2_readStep_133 ?_
  refine z_iconst (pc := 136) hC (1 : Int32) rfl dX2_readStep_136 ?_
  refine z_iadd (pc := 137) hC dX2_readStep_137 ?_
  refine zg_puti (pc := 138) hC (hu1 4 rfl) f_4_10 q204 dX2_readStep_138 (fun d2 => ?_)
  refine z_iconst (pc := 141) hC (1 : Int32) rfl dX2_readStep_141 ?_
  exact z_zret (pc := 142) hC rfl rfl dX2_readStep_142
theorem r_Re_readStep_97 {C : Cxt} {G : Geo} (hC : Cx C cX2_readStep 7 "FrameHeirs$Reader" (some .boolean) rm_X2_readStep G) (hcl : GCl G) (hX : LXx G) (hT : LSt G) (k47 : (Nat × Nat) → Int32 → Int32 → Mem → Option (Int32 × Mem)) (h47 : ∀ (f2 : (Nat × Nat)) (hf2 : FOk G f2) (v3 : Int32) (v4 : Int32) (d : Mem), Rz C 7 G gm (poM avI gm) 47 [(0, .inr (0, 2)), (2, .inr (0, f2.1)), (3, .inl (.int v3)), (4, .inl (.int v4))] [] d (k47 f2 v3 v4 d)) (f2 : (Nat × Nat)) (hf2 : FOk G f2) (v3 : Int32) (v4 : Int32) (s0 : Int32) (d : Mem) : Rz C 7 G gm (poM avI gm) 97 [(0, .inr (0, 2)), (2, .inr (0, f2.1)), (3, .inl (.int v3)), (4, .inl (.int v4))] [.inl (.int s0)] d (Re_readStep_97 k47 f2 v3 v4 s0 d) := by
  unfold Re_readStep_97
  refine z_istore (pc := 97) (ls1 := fun v => [(6, .inl (.int v)), (0, .inr (0, 2)), (2, .inr (0, f2.1)), (3, .inl (.int v3)), (4, .inl (.int v4))]) hC 6 (by decide) (fun v => rfl) dX2_readStep_97 (fun v6_3 => ?_)
  refine z_iload (pc := 99) hC 6 0 rfl dX2_readStep_99 ?_
  refine z_if_ge (pc := 101) hC 106 rfl dX2_readStep_101 ?_ ?_
  · refine z_aload_n (pc := 106) hC 0 rfl 1 rfl dX2_readStep_106 ?_
    refine zg_getS (pc := 107) hC hcl (hX 2 rfl) f_2_10 q254 dX2_readStep_107 (fun u4 hu4 gu4 => ?_)
    refine z_getc (pc := 110) hC (hu4 4 rfl) f_4_4 q184 dX2_readStep_110 ?_
    refine z_iload_n (pc := 113) hC 3 rfl 3 rfl dX2_readStep_113 ?_
    refine z_iconst (pc := 114) hC (1 : Int32) rfl dX2_readStep_114 ?_
    refine z_iadd (pc := 115) hC dX2_readStep_115 ?_
    refine z_iload (pc := 116) hC 4 4 rfl dX2_readStep_116 ?_
    refine z_iadd (pc := 118) hC dX2_readStep_118 ?_
    refine z_iload (pc := 119) hC 6 0 rfl dX2_readStep_119 ?_
    refine zg_iast (pc := 121) hC (hu4 9 rfl) (by decide) rfl dX2_readStep_121 (fun d5 => ?_)
    refine z_iinc (pc := 122) (ls1 := fun v => [(4, .inl (.int v)), (6, .inl (.int v6_3)), (0, .inr (0, 2)), (2, .inr (0, f2.1)), (3, .inl (.int v3))]) hC 4 4 (by decide) (1 : Int32) rfl rfl (fun v => rfl) dX2_readStep_122 (fun v4_6 => ?_)
    refine z_goto (pc := 125) hC 47 rfl dX2_readStep_125 ?_
    exact z_sub [2, 3, 4, 0] rfl (h47 f2 hf2 v3 v4_6 d5)
  · refine z_iconst (pc := 104) hC (0 : Int32) rfl dX2_readStep_104 ?_
    exact z_zret (pc := 105) hC rfl rfl dX2_readStep_105
theorem r_Re_readStep_47 {C : Cxt} {G : Geo} (hC : Cx C cX2_readStep 7 "FrameHeirs$Reader" (some .boolean) rm_X2_readStep G) (hcl : GCl G) (hX : LXx G) (hT : LSt G) : ∀ (n : Nat) (f2 : (Nat × Nat)) (hf2 : FOk G f2) (v3 : Int32) (v4 : Int32) (d : Mem), Rz C 7 G gm (poM avI gm) 47 [(0, .inr (0, 2)), (2, .inr (0, f2.1)), (3, .inl (.int v3)), (4, .inl (.int v4))] [] d (Re_readStep_47 n f2 v3 v4 d) := by
  intro n
  induction n with
  | zero => intros; exact z_none
  | succ n ih =>
    intro f2 hf2 v3 v4 d
    rw [Re_readStep_47]
    refine z_iload (pc := 47) hC 4 3 rfl dX2_readStep_47 ?_
    refine z_aload_n (pc := 49) hC 2 rfl 1 rfl dX2_readStep_49 ?_
    refine z_alen (pc := 50) hC hf2.1 hf2.2 (Int32.ofNat f2.2) rfl dX2_readStep_50 ?_
    refine z_icmp_ge (pc := 51) hC 128 rfl dX2_readStep_51 ?_ ?_
    · exact z_sub [0] rfl (r_Re_readStep_128 hC hcl hX hT d)
    · refine z_iload (pc := 54) hC 4 3 rfl dX2_readStep_54 ?_
      refine z_iconst (pc := 56) hC (1 : Int32) rfl dX2_readStep_56 ?_
      refine z_iadd (pc := 57) hC dX2_readStep_57 ?_
      refine z_bipush (pc := 58) hC (7 : Int32) rfl dX2_readStep_58 ?_
      refine z_icmp_ge (pc := 60) hC 128 rfl dX2_readStep_60 ?_ ?_
      · exact z_sub [0] rfl (r_Re_readStep_128 hC hcl hX hT d)
      · refine z_aload_n (pc := 63) hC 2 rfl 1 rfl dX2_readStep_63 ?_
        refine z_iload (pc := 64) hC 4 3 rfl dX2_readStep_64 ?_
        refine zg_iald (pc := 66) hC hf2.1 hf2.2 dX2_readStep_66 ?_
        refine z_istore (pc := 67) (ls1 := fun v => [(5, .inl (.int v)), (0, .inr (0, 2)), (2, .inr (0, f2.1)), (3, .inl (.int v3)), (4, .inl (.int v4))]) hC 5 (by decide) (fun v => rfl) dX2_readStep_67 (fun v5_7 => ?_)
        refine z_iload (pc := 69) hC 5 0 rfl dX2_readStep_69 ?_
        refine z_if_ne (pc := 71) hC 81 rfl dX2_readStep_71 ?_ ?_
        · refine z_aload_n (pc := 81) hC 0 rfl 1 rfl dX2_readStep_81 ?_
          refine z_gets (pc := 82) hC (hT 49 rfl) (by decide) (by decide) q571 dX2_readStep_82 ?_
          refine z_iload (pc := 85) hC 5 0 rfl dX2_readStep_85 ?_
          refine zg_iald (pc := 87) hC (hT 49 rfl) rfl dX2_readStep_87 ?_
          refine z_gets (pc := 88) hC (hT 50 rfl) (by decide) (by decide) q573 dX2_readStep_88 ?_
          refine z_iload (pc := 91) hC 5 0 rfl dX2_readStep_91 ?_
          refine zg_iald (pc := 93) hC (hT 50 rfl) rfl dX2_readStep_93 ?_
          refine z_ciV (pc := 94) (st := []) hC y_X2_takeNumber q541 [.inl (.int (d 0 49 (ix v5_7))), .inl (.int (d 0 50 (ix v5_7)))] rfl (hX 2 rfl) rfl rfl (c_X2_takeNumber hC.2.2.2.2.2.2.1 hcl hX hT) rfl ⟨rfl, rfl, (Nat.le_of_ble_eq_true rfl), (Nat.le_of_ble_eq_true rfl)⟩ (Nat.le_of_ble_eq_true rfl) dX2_readStep_94 (fun r8 d9 => ?_)
          exact z_sub [1, 2, 3, 4] rfl (r_Re_readStep_97 hC hcl hX hT _ ih f2 hf2 v3 v4 r8 d9)
        · refine z_aload_n (pc := 74) hC 0 rfl 1 rfl dX2_readStep_74 ?_
          refine z_ciV (pc := 75) (st := []) hC y_X2_takeSpace q537 [] rfl (hX 2 rfl) rfl rfl (c_X2_takeSpace hC.2.2.2.2.2.2.1 hcl hX hT) rfl ⟨rfl, rfl, (Nat.le_of_ble_eq_true rfl), (Nat.le_of_ble_eq_true rfl)⟩ (Nat.le_of_ble_eq_true rfl) dX2_readStep_75 (fun r10 d11 => ?_)
          refine z_goto (pc := 78) hC 97 rfl dX2_readStep_78 ?_
          exact z_sub [1, 2, 3, 4] rfl (r_Re_readStep_97 hC hcl hX hT _ ih f2 hf2 v3 v4 r10 d11)
theorem r_Re_readStep {C : Cxt} {G : Geo} (hC : Cx C cX2_readStep 7 "FrameHeirs$Reader" (some .boolean) rm_X2_readStep G) (hcl : GCl G) (hX : LXx G) (hT : LSt G) (d : Mem) (a1 : Int32) : Rz C 7 G gm (poM avI gm) 0 [(0, .inr (0, 2)), (1, .inl (.int a1))] [] d (Re_readStep d a1) := by
  unfold Re_readStep
  refine z_aload_n (pc := 0) hC 0 rfl 0 rfl dX2_readStep_0 ?_
  refine zg_getS (pc := 1) hC hcl (hX 2 rfl) f_2_10 q254 dX2_readStep_1 (fun u12 hu12 gu12 => ?_)
  refine zg_geti (pc := 4) hC (hu12 4 rfl) f_4_10 q204 dX2_readStep_4 ?_
  refine z_bipush (pc := 7) hC (24 : Int32) rfl dX2_readStep_7 ?_
  refine z_icmp_lt (pc := 9) hC 18 rfl dX2_readStep_9 ?_ ?_
  · refine z_iload_n (pc := 18) hC 1 rfl 1 rfl dX2_readStep_18 ?_
    refine z_prS (pc := 19) (st := []) hC y_X2_formOf q558 [.inl (.int a1)] rfl (c_X2_formOf hC.2.2.2.2.2.2.1 hT) rfl ⟨rfl, rfl, (Nat.le_of_ble_eq_true rfl), (Nat.le_of_ble_eq_true rfl)⟩ (Nat.le_of_ble_eq_true rfl) dX2_readStep_19 (fo_ok hT) (fun r13 hr13 => ?_)
    refine z_astore_n (pc := 22) (ls1 := [(2, .inr (0, r13.1)), (0, .inr (0, 2)), (1, .inl (.int a1))]) hC 2 rfl (by decide) rfl dX2_readStep_22 ?_
    refine z_aload_n (pc := 23) hC 0 rfl 1 rfl dX2_readStep_23 ?_
    refine zg_getS (pc := 24) hC hcl (hX 2 rfl) f_2_10 q254 dX2_readStep_24 (fun u14 hu14 gu14 => ?_)
    refine zg_geti (pc := 27) hC (hu14 4 rfl) f_4_10 q204 dX2_readStep_27 ?_
    refine z_bipush (pc := 30) hC (7 : Int32) rfl dX2_readStep_30 ?_
    refine z_imul (pc := 32) hC dX2_readStep_32 ?_
    refine z_istore_n (pc := 33) (ls1 := fun v => [(3, .inl (.int v)), (2, .inr (0, r13.1)), (0, .inr (0, 2)), (1, .inl (.int a1))]) hC 3 rfl (by decide) (fun v => rfl) dX2_readStep_33 (fun v3_15 => ?_)
    refine z_aload_n (pc := 34) hC 0 rfl 2 rfl dX2_readStep_34 ?_
    refine zg_getS (pc := 35) hC hcl (hX 2 rfl) f_2_10 q254 dX2_readStep_35 (fun u16 hu16 gu16 => ?_)
    refine z_getc (pc := 38) hC (hu16 4 rfl) f_4_4 q184 dX2_readStep_38 ?_
    refine z_iload_n (pc := 41) hC 3 rfl 0 rfl dX2_readStep_41 ?_
    refine z_iload_n (pc := 42) hC 1 rfl 3 rfl dX2_readStep_42 ?_
    refine zg_iast (pc := 43) hC (hu16 9 rfl) (by decide) rfl dX2_readStep_43 (fun d17 => ?_)
    refine z_iconst (pc := 44) hC (0 : Int32) rfl dX2_readStep_44 ?_
    refine z_istore (pc := 45) (ls1 := fun v => [(4, .inl (.int v)), (3, .inl (.int v3_15)), (2, .inr (0, r13.1)), (0, .inr (0, 2)), (1, .inl (.int a1))]) hC 4 (by decide) (fun v => rfl) dX2_readStep_45 (fun v4_18 => ?_)
    exact z_sub [3, 2, 1, 0] rfl (r_Re_readStep_47 hC hcl hX hT FU r13 hr13 v3_15 v4_18 d17)
  · refine z_aload_n (pc := 12) hC 0 rfl 0 rfl dX2_readStep_12 ?_
    refine z_iconst (pc := 13) hC (2 : Int32) rfl dX2_readStep_13 ?_
    refine z_ciV (pc := 14) (st := []) hC y_X2_fail q517 [.inl (.int (2 : Int32))] rfl (hX 2 rfl) rfl rfl (c_X2_fail hC.2.2.2.2.2.2.1 hcl hX hT) rfl ⟨rfl, rfl, (Nat.le_of_ble_eq_true rfl), (Nat.le_of_ble_eq_true rfl)⟩ (Nat.le_of_ble_eq_true rfl) dX2_readStep_14 (fun r19 d20 => ?_)
    exact z_zretG (pc := 17) hC rfl dX2_readStep_17
theorem c_X2_readStep {G : Geo} (hG : GOk G) (hcl : GCl G) (hX : LXx G) (hT : LSt G) {d : Mem} {a1 : Int32} (l : Launch) (r : Int32) (d1 : Mem) (h : Re_readStep d a1 = some (r, d1)) : Mt l yX2_readStep cX2_readStep 7 (some .boolean) rm_X2_readStep G [.inr (0, 2), .inl (.int a1)] (gm d) (avI r) (gm d1) :=
  mt_of (mem := gm) (po := poM avI gm) (x0 := d) (t := (r, d1)) rfl hG [.inr (0, 2), .inl (.int a1)] (Nat.le_of_ble_eq_true rfl) rfl (fun C hC => r_Re_readStep hC hcl hX hT d a1) h
-- FrameHeirs$Reader.readLine()Z
abbrev rm_X2_readLine : Room := { frames := 5, cells := 0, slots := 0, locals := 111 }
theorem dX2_readLine_0 : decode cX2_readLine 0 = .ok (.aload_n 0, 1) := by decide +kernel
theorem dX2_readLine_1 : decode cX2_readLine 1 = .ok (.getfield 24, 3) := by decide +kernel
theorem dX2_readLine_4 : decode cX2_readLine 4 = .ok (.iconst 2, 1) := by decide +kernel
theorem dX2_readLine_5 : decode cX2_readLine 5 = .ok (.if_icmp .eq 9, 3) := by decide +kernel
theorem dX2_readLine_8 : decode cX2_readLine 8 = .ok (.aload_n 0, 1) := by decide +kernel
theorem dX2_readLine_9 : decode cX2_readLine 9 = .ok (.iconst 1, 1) := by decide +kernel
theorem dX2_readLine_10 : decode cX2_readLine 10 = .ok (.invokevirtual 61, 3) := by decide +kernel
theorem dX2_readLine_13 : decode cX2_readLine 13 = .ok (.ireturn, 1) := by decide +kernel
theorem dX2_readLine_14 : decode cX2_readLine 14 = .ok (.aload_n 0, 1) := by decide +kernel
theorem dX2_readLine_15 : decode cX2_readLine 15 = .ok (.getfield 30, 3) := by decide +kernel
theorem dX2_readLine_18 : decode cX2_readLine 18 = .ok (.tableswitch 78 0 6 #[42, 50, 58, 66, 66, 66, 66], 42) := by decide +kernel
theorem dX2_readLine_60 : decode cX2_readLine 60 = .ok (.aload_n 0, 1) := by decide +kernel
theorem dX2_readLine_61 : decode cX2_readLine 61 = .ok (.invokevirtual 65, 3) := by decide +kernel
theorem dX2_readLine_64 : decode cX2_readLine 64 = .ok (.istore_n 1, 1) := by decide +kernel
theorem dX2_readLine_65 : decode cX2_readLine 65 = .ok (.goto 40, 3) := by decide +kernel
theorem dX2_readLine_68 : decode cX2_readLine 68 = .ok (.aload_n 0, 1) := by decide +kernel
theorem dX2_readLine_69 : decode cX2_readLine 69 = .ok (.invokevirtual 69, 3) := by decide +kernel
theorem dX2_readLine_72 : decode cX2_readLine 72 = .ok (.istore_n 1, 1) := by decide +kernel
theorem dX2_readLine_73 : decode cX2_readLine 73 = .ok (.goto 32, 3) := by decide +kernel
theorem dX2_readLine_76 : decode cX2_readLine 76 = .ok (.aload_n 0, 1) := by decide +kernel
theorem dX2_readLine_77 : decode cX2_readLine 77 = .ok (.invokevirtual 72, 3) := by decide +kernel
theorem dX2_readLine_80 : decode cX2_readLine 80 = .ok (.istore_n 1, 1) := by decide +kernel
theorem dX2_readLine_81 : decode cX2_readLine 81 = .ok (.goto 24, 3) := by decide +kernel
theorem dX2_readLine_84 : decode cX2_readLine 84 = .ok (.aload_n 0, 1) := by decide +kernel
theorem dX2_readLine_85 : decode cX2_readLine 85 = .ok (.aload_n 0, 1) := by decide +kernel
theorem dX2_readLine_86 : decode cX2_readLine 86 = .ok (.getfield 30, 3) := by decide +kernel
theorem dX2_readLine_89 : decode cX2_readLine 89 = .ok (.invokevirtual 75, 3) := by decide +kernel
theorem dX2_readLine_92 : decode cX2_readLine 92 = .ok (.istore_n 1, 1) := by decide +kernel
theorem dX2_readLine_93 : decode cX2_readLine 93 = .ok (.goto 12, 3) := by decide +kernel
theorem dX2_readLine_96 : decode cX2_readLine 96 = .ok (.aload_n 0, 1) := by decide +kernel
theorem dX2_readLine_97 : decode cX2_readLine 97 = .ok (.aload_n 0, 1) := by decide +kernel
theorem dX2_readLine_98 : decode cX2_readLine 98 = .ok (.getfield 30, 3) := by decide +kernel
theorem dX2_readLine_101 : decode cX2_readLine 101 = .ok (.invokevirtual 78, 3) := by decide +kernel
theorem dX2_readLine_104 : decode cX2_readLine 104 = .ok (.istore_n 1, 1) := by decide +kernel
theorem dX2_readLine_105 : decode cX2_readLine 105 = .ok (.iload_n 1, 1) := by decide +kernel
theorem dX2_readLine_106 : decode cX2_readLine 106 = .ok (.ifCond .ne 5, 3) := by decide +kernel
theorem dX2_readLine_109 : decode cX2_readLine 109 = .ok (.iconst 0, 1) := by decide +kernel
theorem dX2_readLine_110 : decode cX2_readLine 110 = .ok (.ireturn, 1) := by decide +kernel
theorem dX2_readLine_111 : decode cX2_readLine 111 = .ok (.aload_n 0, 1) := by decide +kernel
theorem dX2_readLine_112 : decode cX2_readLine 112 = .ok (.invokevirtual 58, 3) := by decide +kernel
theorem dX2_readLine_115 : decode cX2_readLine 115 = .ok (.aload_n 0, 1) := by decide +kernel
theorem dX2_readLine_116 : decode cX2_readLine 116 = .ok (.getfield 24, 3) := by decide +kernel
theorem dX2_readLine_119 : decode cX2_readLine 119 = .ok (.iconst 4, 1) := by decide +kernel
theorem dX2_readLine_120 : decode cX2_readLine 120 = .ok (.if_icmp .eq 9, 3) := by decide +kernel
theorem dX2_readLine_123 : decode cX2_readLine 123 = .ok (.aload_n 0, 1) := by decide +kernel
theorem dX2_readLine_124 : decode cX2_readLine 124 = .ok (.iconst 1, 1) := by decide +kernel
theorem dX2_readLine_125 : decode cX2_readLine 125 = .ok (.invokevirtual 61, 3) := by decide +kernel
theorem dX2_readLine_128 : decode cX2_readLine 128 = .ok (.ireturn, 1) := by decide +kernel
theorem dX2_readLine_129 : decode cX2_readLine 129 = .ok (.aload_n 0, 1) := by decide +kernel
theorem dX2_readLine_130 : decode cX2_readLine 130 = .ok (.getfield 43, 3) := by decide +kernel
theorem dX2_readLine_133 : decode cX2_readLine 133 = .ok (.dup, 1) := by decide +kernel
theorem dX2_readLine_134 : decode cX2_readLine 134 = .ok (.getfield 81, 3) := by decide +kernel
theorem dX2_readLine_137 : decode cX2_readLine 137 = .ok (.iconst 1, 1) := by decide +kernel
theorem dX2_readLine_138 : decode cX2_readLine 138 = .ok (.iadd, 1) := by decide +kernel
theorem dX2_readLine_139 : decode cX2_readLine 139 = .ok (.putfield 81, 3) := by decide +kernel
theorem dX2_readLine_142 : decode cX2_readLine 142 = .ok (.iconst 1, 1) := by decide +kernel
theorem dX2_readLine_143 : decode cX2_readLine 143 = .ok (.ireturn, 1) := by decide +kernel
def Re_readLine_105 (v1 : Int32) (d : Mem) : Option (Int32 × Mem) :=
  if v1 = 0 then
    (some ((0 : Int32), d))
  else
    (bd (Re_take d) fun r1 d2 =>
    if (d2 0 2 5) = (4 : Int32) then
      (gref (d2 0 2 10) fun u3 =>
      bnd (wrM d2 u3 4 11 ((d2 u3 4 11) + (1 : Int32))) fun d4 =>
      some ((1 : Int32), d4))
    else
      (bd (Re_fail d2 (1 : Int32)) fun r5 d6 =>
      if r5 = 0 ∨ r5 = 1 then some (r5, d6) else none))
def Re_readLine (d : Mem) : Option (Int32 × Mem) :=
  if (d 0 2 5) = (2 : Int32) then
    (if (d 0 2 7) = (0 : Int32) then
      (bd (Re_readSpace d) fun r28 d29 =>
      bnd r28 fun v1_30 =>
      Re_readLine_105 v1_30 d29)
    else
      (if (d 0 2 7) = (1 : Int32) then
        (bd (Re_readPager d) fun r25 d26 =>
        bnd r25 fun v1_27 =>
        Re_readLine_105 v1_27 d26)
      else
        (if (d 0 2 7) = (2 : Int32) then
          (bd (Re_readQuota d) fun r22 d23 =>
          bnd r22 fun v1_24 =>
          Re_readLine_105 v1_24 d23)
        else
          (if (d 0 2 7) = (3 : Int32) then
            (bd (Re_readSetting d (d 0 2 7)) fun r19 d20 =>
            bnd r19 fun v1_21 =>
            Re_readLine_105 v1_21 d20)
          else
            (if (d 0 2 7) = (4 : Int32) then
              (bd (Re_readSetting d (d 0 2 7)) fun r16 d17 =>
              bnd r16 fun v1_18 =>
              Re_readLine_105 v1_18 d17)
            else
              (if (d 0 2 7) = (5 : Int32) then
                (bd (Re_readSetting d (d 0 2 7)) fun r13 d14 =>
                bnd r13 fun v1_15 =>
                Re_readLine_105 v1_15 d14)
              else
                (if (d 0 2 7) = (6 : Int32) then
                  (bd (Re_readSetting d (d 0 2 7)) fun r10 d11 =>
                  bnd r10 fun v1_12 =>
                  Re_readLine_105 v1_12 d11)
                else
                  (bd (Re_readStep d (d 0 2 7)) fun r7 d8 =>
                  bnd r7 fun v1_9 =>
                  Re_readLine_105 v1_9 d8))))))))
  else
    (bd (Re_fail d (1 : Int32)) fun r31 d32 =>
    if r31 = 0 ∨ r31 = 1 then some (r31, d32) else none)
theorem y_X2_readLine : YV yX2_readLine cX2_readLine 2 (some .boolean) 0 := ⟨q514, q515, q516, q145, by decide +kernel, by decide +kernel, by decide +kernel, by decide +kernel⟩
theorem r_Re_readLine_105 {C : Cxt} {G : Geo} (hC : Cx C cX2_readLine 2 "FrameHeirs$Reader" (some .boolean) rm_X2_readLine G) (hcl : GCl G) (hX : LXx G) (hT : LSt G) (v1 : Int32) (d : Mem) : Rz C 2 G gm (poM avI gm) 105 [(0, .inr (0, 2)), (1, .inl (.int v1))] [] d (Re_readLine_105 v1 d) := by
  unfold Re_readLine_105
  refine z_iload_n (pc := 105) hC 1 rfl 1 rfl dX2_readLine_105 ?_
  refine z_if_ne (pc := 106) hC 111 rfl dX2_readLine_106 ?_ ?_
  · refine z_aload_n (pc := 111) hC 0 rfl 0 rfl dX2_readLine_111 ?_
    refine z_cvV (pc := 112) (st := []) hC y_X2_take q489 [] rfl (hX 2 rfl) rfl rfl (c_X2_take hC.2.2.2.2.2.2.1 hcl hX hT) rfl ⟨rfl, rfl, (Nat.le_of_ble_eq_true rfl), (Nat.le_of_ble_eq_true rfl)⟩ (Nat.le_of_ble_eq_true rfl) dX2_readLine_112 (fun r1 d2 => ?_)
    refine z_aload_n (pc := 115) hC 0 rfl 0 rfl dX2_readLine_115 ?_
    refine zg_geti (pc := 116) hC (hX 2 rfl) f_2_5 q249 dX2_readLine_116 ?_
    refine z_iconst (pc := 119) hC (4 : Int32) rfl dX2_readLine_119 ?_
    refine z_icmp_eq (pc := 120) hC 129 rfl dX2_readLine_120 ?_ ?_
    · refine z_aload_n (pc := 129) hC 0 rfl 0 rfl dX2_readLine_129 ?_
      refine zg_getS (pc := 130) hC hcl (hX 2 rfl) f_2_10 q254 dX2_readLine_130 (fun u3 hu3 gu3 => ?_)
      refine z_dup (pc := 133) hC rfl dX2_readLine_133 ?_
      refine zg_geti (pc := 134) hC (hu3 4 rfl) f_4_11 q209 dX2_readLine_134 ?_
      refine z_iconst (pc := 137) hC (1 : Int32) rfl dX2_readLine_137 ?_
      refine z_iadd (pc := 138) hC dX2_readLine_138 ?_
      refine zg_puti (pc := 139) hC (hu3 4 rfl) f_4_11 q209 dX2_readLine_139 (fun d4 => ?_)
      refine z_iconst (pc := 142) hC (1 : Int32) rfl dX2_readLine_142 ?_
      exact z_zret (pc := 143) hC rfl rfl dX2_readLine_143
    · refine z_aload_n (pc := 123) hC 0 rfl 0 rfl dX2_readLine_123 ?_
      refine z_iconst (pc := 124) hC (1 : Int32) rfl dX2_readLine_124 ?_
      refine z_ciV (pc := 125) (st := []) hC y_X2_fail q517 [.inl (.int (1 : Int32))] rfl (hX 2 rfl) rfl rfl (c_X2_fail hC.2.2.2.2.2.2.1 hcl hX hT) rfl ⟨rfl, rfl, (Nat.le_of_ble_eq_true rfl), (Nat.le_of_ble_eq_true rfl)⟩ (Nat.le_of_ble_eq_true rfl) dX2_readLine_125 (fun r5 d6 => ?_)
      exact z_zretG (pc := 128) hC rfl dX2_readLine_128
  · refine z_iconst (pc := 109) hC (0 : Int32) rfl dX2_readLine_109 ?_
    exact z_zret (pc := 110) hC rfl rfl dX2_readLine_110
theorem r_Re_readLine {C : Cxt} {G : Geo} (hC : Cx C cX2_readLine 2 "FrameHeirs$Reader" (some .boolean) rm_X2_readLine G) (hcl : GCl G) (hX : LXx G) (hT : LSt G) (d : Mem) : Rz C 2 G gm (poM avI gm) 0 [(0, .inr (0, 2))] [] d (Re_readLine d) := by
  unfold Re_readLine
  refine z_aload_n (pc := 0) hC 0 rfl 0 rfl dX2_readLine_0 ?_
  refine zg_geti (pc := 1) hC (hX 2 rfl) f_2_5 q249 dX2_readLine_1 ?_
  refine z_iconst (pc := 4) hC (2 : Int32) rfl dX2_readLine_4 ?_
  refine z_icmp_eq (pc := 5) hC 14 rfl dX2_readLine_5 ?_ ?_
  · refine z_aload_n (pc := 14) hC 0 rfl 0 rfl dX2_readLine_14 ?_
    refine zg_geti (pc := 15) hC (hX 2 rfl) f_2_7 q251 dX2_readLine_15 ?_
    refine z_ite (fun e => ?_) (fun e0 => ?_)
    · refine z_tswIn (pc := 18) hC 0 60 (by rw [e]; rfl) (by decide) (by decide) rfl rfl dX2_readLine_18 ?_
      refine z_aload_n (pc := 60) hC 0 rfl 0 rfl dX2_readLine_60 ?_
      refine z_ciV (pc := 61) (st := []) hC y_X2_readSpace q521 [] rfl (hX 2 rfl) rfl rfl (c_X2_readSpace hC.2.2.2.2.2.2.1 hcl hX hT) rfl ⟨rfl, rfl, (Nat.le_of_ble_eq_true rfl), (Nat.le_of_ble_eq_true rfl)⟩ (Nat.le_of_ble_eq_true rfl) dX2_readLine_61 (fun r28 d29 => ?_)
      refine z_istore_n (pc := 64) (ls1 := fun v => [(1, .inl (.int v)), (0, .inr (0, 2))]) hC 1 rfl (by decide) (fun v => rfl) dX2_readLine_64 (fun v1_30 => ?_)
      refine z_goto (pc := 65) hC 105 rfl dX2_readLine_65 ?_
      exact z_sub [1, 0] rfl (r_Re_readLine_105 hC hcl hX hT v1_30 d29)
    · refine z_ite (fun e => ?_) (fun e1 => ?_)
      · refine z_tswIn (pc := 18) hC 1 68 (by rw [e]; rfl) (by decide) (by decide) rfl rfl dX2_readLine_18 ?_
        refine z_aload_n (pc := 68) hC 0 rfl 0 rfl dX2_readLine_68 ?_
        refine z_ciV (pc := 69) (st := []) hC y_X2_readPager q533 [] rfl (hX 2 rfl) rfl rfl (c_X2_readPager hC.2.2.2.2.2.2.1 hcl hX hT) rfl ⟨rfl, rfl, (Nat.le_of_ble_eq_true rfl), (Nat.le_of_ble_eq_true rfl)⟩ (Nat.le_of_ble_eq_true rfl) dX2_readLine_69 (fun r25 d26 => ?_)
        refine z_istore_n (pc := 72) (ls1 := fun v => [(1, .inl (.int v)), (0, .inr (0, 2))]) hC 1 rfl (by decide) (fun v => rfl) dX2_readLine_72 (fun v1_27 => ?_)
        refine z_goto (pc := 73) hC 105 rfl dX2_readLine_73 ?_
        exact z_sub [1, 0] rfl (r_Re_readLine_105 hC hcl hX hT v1_27 d26)
      · refine z_ite (fun e => ?_) (fun e2 => ?_)
        · refine z_tswIn (pc := 18) hC 2 76 (by rw [e]; rfl) (by decide) (by decide) rfl rfl dX2_readLine_18 ?_
          refine z_aload_n (pc := 76) hC 0 rfl 0 rfl dX2_readLine_76 ?_
          refine z_ciV (pc := 77) (st := []) hC y_X2_readQuota q545 [] rfl (hX 2 rfl) rfl rfl (c_X2_readQuota hC.2.2.2.2.2.2.1 hcl hX hT) rfl ⟨rfl, rfl, (Nat.le_of_ble_eq_true rfl), (Nat.le_of_ble_eq_true rfl)⟩ (Nat.le_of_ble_eq_true rfl) dX2_readLine_77 (fun r22 d23 => ?_)
          refine z_istore_n (pc := 80) (ls1 := fun v => [(1, .inl (.int v)), (0, .inr (0, 2))]) hC 1 rfl (by decide) (fun v => rfl) dX2_readLine_80 (fun v1_24 => ?_)
          refine z_goto (pc := 81) hC 105 rfl dX2_readLine_81 ?_
          exact z_sub [1, 0] rfl (r_Re_readLine_105 hC hcl hX hT v1_24 d23)
        · refine z_ite (fun e => ?_) (fun e3 => ?_)
          · refine z_tswIn (pc := 18) hC 3 84 (by rw [e]; rfl) (by decide) (by decide) rfl rfl dX2_readLine_18 ?_
            refine z_aload_n (pc := 84) hC 0 rfl 0 rfl dX2_readLine_84 ?_
            refine z_aload_n (pc := 85) hC 0 rfl 0 rfl dX2_readLine_85 ?_
            refine zg_geti (pc := 86) hC (hX 2 rfl) f_2_7 q251 dX2_readLine_86 ?_
            refine z_ciV (pc := 89) (st := []) hC y_X2_readSetting q549 [.inl (.int (d 0 2 7))] rfl (hX 2 rfl) rfl rfl (c_X2_readSetting hC.2.2.2.2.2.2.1 hcl hX hT) rfl ⟨rfl, rfl, (Nat.le_of_ble_eq_true rfl), (Nat.le_of_ble_eq_true rfl)⟩ (Nat.le_of_ble_eq_true rfl) dX2_readLine_89 (fun r19 d20 => ?_)
            refine z_istore_n (pc := 92) (ls1 := fun v => [(1, .inl (.int v)), (0, .inr (0, 2))]) hC 1 rfl (by decide) (fun v => rfl) dX2_readLine_92 (fun v1_21 => ?_)
            refine z_goto (pc := 93) hC 105 rfl dX2_readLine_93 ?_
            exact z_sub [1, 0] rfl (r_Re_readLine_105 hC hcl hX hT v1_21 d20)
          · refine z_ite (fun e => ?_) (fun e4 => ?_)
            · refine z_tswIn (pc := 18) hC 4 84 (by rw [e]; rfl) (by decide) (by decide) rfl rfl dX2_readLine_18 ?_
              refine z_aload_n (pc := 84) hC 0 rfl 0 rfl dX2_readLine_84 ?_
              refine z_aload_n (pc := 85) hC 0 rfl 0 rfl dX2_readLine_85 ?_
              refine zg_geti (pc := 86) hC (hX 2 rfl) f_2_7 q251 dX2_readLine_86 ?_
              refine z_ciV (pc := 89) (st := []) hC y_X2_readSetting q549 [.inl (.int (d 0 2 7))] rfl (hX 2 rfl) rfl rfl (c_X2_readSetting hC.2.2.2.2.2.2.1 hcl hX hT) rfl ⟨rfl, rfl, (Nat.le_of_ble_eq_true rfl), (Nat.le_of_ble_eq_true rfl)⟩ (Nat.le_of_ble_eq_true rfl) dX2_readLine_89 (fun r16 d17 => ?_)
              refine z_istore_n (pc := 92) (ls1 := fun v => [(1, .inl (.int v)), (0, .inr (0, 2))]) hC 1 rfl (by decide) (fun v => rfl) dX2_readLine_92 (fun v1_18 => ?_)
              refine z_goto (pc := 93) hC 105 rfl dX2_readLine_93 ?_
              exact z_sub [1, 0] rfl (r_Re_readLine_105 hC hcl hX hT v1_18 d17)
            · refine z_ite (fun e => ?_) (fun e5 => ?_)
              · refine z_tswIn (pc := 18) hC 5 84 (by rw [e]; rfl) (by decide) (by decide) rfl rfl dX2_readLine_18 ?_
                refine z_aload_n (pc := 84) hC 0 rfl 0 rfl dX2_readLine_84 ?_
                refine z_aload_n (pc := 85) hC 0 rfl 0 rfl dX2_readLine_85 ?_
                refine zg_geti (pc := 86) hC (hX 2 rfl) f_2_7 q251 dX2_readLine_86 ?_
                refine z_ciV (pc := 89) (st := []) hC y_X2_readSetting q549 [.inl (.int (d 0 2 7))] rfl (hX 2 rfl) rfl rfl (c_X2_readSetting hC.2.2.2.2.2.2.1 hcl hX hT) rfl ⟨rfl, rfl, (Nat.le_of_ble_eq_true rfl), (Nat.le_of_ble_eq_true rfl)⟩ (Nat.le_of_ble_eq_true rfl) dX2_readLine_89 (fun r13 d14 => ?_)
                refine z_istore_n (pc := 92) (ls1 := fun v => [(1, .inl (.int v)), (0, .inr (0, 2))]) hC 1 rfl (by decide) (fun v => rfl) dX2_readLine_92 (fun v1_15 => ?_)
                refine z_goto (pc := 93) hC 105 rfl dX2_readLine_93 ?_
                exact z_sub [1, 0] rfl (r_Re_readLine_105 hC hcl hX hT v1_15 d14)
              · refine z_ite (fun e => ?_) (fun e6 => ?_)
                · refine z_tswIn (pc := 18) hC 6 84 (by rw [e]; rfl) (by decide) (by decide) rfl rfl dX2_readLine_18 ?_
                  refine z_aload_n (pc := 84) hC 0 rfl 0 rfl dX2_readLine_84 ?_
                  refine z_aload_n (pc := 85) hC 0 rfl 0 rfl dX2_readLine_85 ?_
                  refine zg_geti (pc := 86) hC (hX 2 rfl) f_2_7 q251 dX2_readLine_86 ?_
                  refine z_ciV (pc := 89) (st := []) hC y_X2_readSetting q549 [.inl (.int (d 0 2 7))] rfl (hX 2 rfl) rfl rfl (c_X2_readSetting hC.2.2.2.2.2.2.1 hcl hX hT) rfl ⟨rfl, rfl, (Nat.le_of_ble_eq_true rfl), (Nat.le_of_ble_eq_true rfl)⟩ (Nat.le_of_ble_eq_true rfl) dX2_readLine_89 (fun r10 d11 => ?_)
                  refine z_istore_n (pc := 92) (ls1 := fun v => [(1, .inl (.int v)), (0, .inr (0, 2))]) hC 1 rfl (by decide) (fun v => rfl) dX2_readLine_92 (fun v1_12 => ?_)
                  refine z_goto (pc := 93) hC 105 rfl dX2_readLine_93 ?_
                  exact z_sub [1, 0] rfl (r_Re_readLine_105 hC hcl hX hT v1_12 d11)
                · have e0_ : ((d 0 2 7)).toInt ≠ 0 := fun h => e0 (Int32.toInt_inj.mp (by rw [h]; rfl))
                  have e1_ : ((d 0 2 7)).toInt ≠ 1 := fun h => e1 (Int32.toInt_inj.mp (by rw [h]; rfl))
                  have e2_ : ((d 0 2 7)).toInt ≠ 2 := fun h => e2 (Int32.toInt_inj.mp (by rw [h]; rfl))
                  have e3_ : ((d 0 2 7)).toInt ≠ 3 := fun h => e3 (Int32.toInt_inj.mp (by rw [h]; rfl))
                  have e4_ : ((d 0 2 7)).toInt ≠ 4 := fun h => e4 (Int32.toInt_inj.mp (by rw [h]; rfl))
                  have e5_ : ((d 0 2 7)).toInt ≠ 5 := fun h => e5 (Int32.toInt_inj.mp (by rw [h]; rfl))
                  have e6_ : ((d 0 2 7)).toInt ≠ 6 := fun h => e6 (Int32.toInt_inj.mp (by rw [h]; rfl))
                  refine z_tswOut (pc := 18) hC 96 (by omega) rfl dX2_readLine_18 ?_
                  refine z_aload_n (pc := 96) hC 0 rfl 0 rfl dX2_readLine_96 ?_
                  refine z_aload_n (pc := 97) hC 0 rfl 0 rfl dX2_readLine_97 ?_
                  refine zg_geti (pc := 98) hC (hX 2 rfl) f_2_7 q251 dX2_readLine_98 ?_
                  refine z_ciV (pc := 101) (st := []) hC y_X2_readStep q554 [.inl (.int (d 0 2 7))] rfl (hX 2 rfl) rfl rfl (c_X2_readStep hC.2.2.2.2.2.2.1 hcl hX hT) rfl ⟨rfl, rfl, (Nat.le_of_ble_eq_true rfl), (Nat.le_of_ble_eq_true rfl)⟩ (Nat.le_of_ble_eq_true rfl) dX2_readLine_101 (fun r7 d8 => ?_)
                  refine z_istore_n (pc := 104) (ls1 := fun v => [(1, .inl (.int v)), (0, .inr (0, 2))]) hC 1 rfl (by decide) (fun v => rfl) dX2_readLine_104 (fun v1_9 => ?_)
                  exact z_sub [1, 0] rfl (r_Re_readLine_105 hC hcl hX hT v1_9 d8)
  · refine z_aload_n (pc := 8) hC 0 rfl 0 rfl dX2_readLine_8 ?_
    refine z_iconst (pc := 9) hC (1 : Int32) rfl dX2_readLine_9 ?_
    refine z_ciV (pc := 10) (st := []) hC y_X2_fail q517 [.inl (.int (1 : Int32))] rfl (hX 2 rfl) rfl rfl (c_X2_fail hC.2.2.2.2.2.2.1 hcl hX hT) rfl ⟨rfl, rfl, (Nat.le_of_ble_eq_true rfl), (Nat.le_of_ble_eq_true rfl)⟩ (Nat.le_of_ble_eq_true rfl) dX2_readLine_10 (fun r31 d32 => ?_)
    exact z_zretG (pc := 13) hC rfl dX2_readLine_13
theorem c_X2_readLine {G : Geo} (hG : GOk G) (hcl : GCl G) (hX : LXx G) (hT : LSt G) {d : Mem} (l : Launch) (r : Int32) (d1 : Mem) (h : Re_readLine d = some (r, d1)) : Mt l yX2_readLine cX2_readLine 2 (some .boolean) rm_X2_readLine G [.inr (0, 2)] (gm d) (avI r) (gm d1) :=
  mt_of (mem := gm) (po := poM avI gm) (x0 := d) (t := (r, d1)) rfl hG [.inr (0, 2)] (Nat.le_of_ble_eq_true rfl) rfl (fun C hC => r_Re_readLine hC hcl hX hT d) h
-- FrameHeirs$World.copyFrom(LFrameHeirs$World;)V
abbrev rm_X4_copyFrom : Room := { frames := 2, cells := 0, slots := 0, locals := 61 }
theorem dX4_copyFrom_0 : decode cX4_copyFrom 0 = .ok (.aload_n 0, 1) := by decide +kernel
theorem dX4_copyFrom_1 : decode cX4_copyFrom 1 = .ok (.aload_n 1, 1) := by decide +kernel
theorem dX4_copyFrom_2 : decode cX4_copyFrom 2 = .ok (.getfield 59, 3) := by decide +kernel
theorem dX4_copyFrom_5 : decode cX4_copyFrom 5 = .ok (.putfield 59, 3) := by decide +kernel
theorem dX4_copyFrom_8 : decode cX4_copyFrom 8 = .ok (.aload_n 0, 1) := by decide +kernel
theorem dX4_copyFrom_9 : decode cX4_copyFrom 9 = .ok (.getfield 12, 3) := by decide +kernel
theorem dX4_copyFrom_12 : decode cX4_copyFrom 12 = .ok (.aload_n 1, 1) := by decide +kernel
theorem dX4_copyFrom_13 : decode cX4_copyFrom 13 = .ok (.getfield 12, 3) := by decide +kernel
theorem dX4_copyFrom_16 : decode cX4_copyFrom 16 = .ok (.invokevirtual 88, 3) := by decide +kernel
theorem dX4_copyFrom_19 : decode cX4_copyFrom 19 = .ok (.aload_n 1, 1) := by decide +kernel
theorem dX4_copyFrom_20 : decode cX4_copyFrom 20 = .ok (.getfield 18, 3) := by decide +kernel
theorem dX4_copyFrom_23 : decode cX4_copyFrom 23 = .ok (.iconst 0, 1) := by decide +kernel
theorem dX4_copyFrom_24 : decode cX4_copyFrom 24 = .ok (.aload_n 0, 1) := by decide +kernel
theorem dX4_copyFrom_25 : decode cX4_copyFrom 25 = .ok (.getfield 18, 3) := by decide +kernel
theorem dX4_copyFrom_28 : decode cX4_copyFrom 28 = .ok (.iconst 0, 1) := by decide +kernel
theorem dX4_copyFrom_29 : decode cX4_copyFrom 29 = .ok (.bipush 24, 2) := by decide +kernel
theorem dX4_copyFrom_31 : decode cX4_copyFrom 31 = .ok (.invokestatic 92, 3) := by decide +kernel
theorem dX4_copyFrom_34 : decode cX4_copyFrom 34 = .ok (.aload_n 0, 1) := by decide +kernel
theorem dX4_copyFrom_35 : decode cX4_copyFrom 35 = .ok (.aload_n 1, 1) := by decide +kernel
theorem dX4_copyFrom_36 : decode cX4_copyFrom 36 = .ok (.getfield 22, 3) := by decide +kernel
theorem dX4_copyFrom_39 : decode cX4_copyFrom 39 = .ok (.putfield 22, 3) := by decide +kernel
theorem dX4_copyFrom_42 : decode cX4_copyFrom 42 = .ok (.aload_n 0, 1) := by decide +kernel
theorem dX4_copyFrom_43 : decode cX4_copyFrom 43 = .ok (.aload_n 1, 1) := by decide +kernel
theorem dX4_copyFrom_44 : decode cX4_copyFrom 44 = .ok (.getfield 26, 3) := by decide +kernel
theorem dX4_copyFrom_47 : decode cX4_copyFrom 47 = .ok (.putfield 26, 3) := by decide +kernel
theorem dX4_copyFrom_50 : decode cX4_copyFrom 50 = .ok (.aload_n 1, 1) := by decide +kernel
theorem dX4_copyFrom_51 : decode cX4_copyFrom 51 = .ok (.getfield 29, 3) := by decide +kernel
theorem dX4_copyFrom_54 : decode cX4_copyFrom 54 = .ok (.iconst 0, 1) := by decide +kernel
theorem dX4_copyFrom_55 : decode cX4_copyFrom 55 = .ok (.aload_n 0, 1) := by decide +kernel
theorem dX4_copyFrom_56 : decode cX4_copyFrom 56 = .ok (.getfield 29, 3) := by decide +kernel
theorem dX4_copyFrom_59 : decode cX4_copyFrom 59 = .ok (.iconst 0, 1) := by decide +kernel
theorem dX4_copyFrom_60 : decode cX4_copyFrom 60 = .ok (.bipush 6, 2) := by decide +kernel
theorem dX4_copyFrom_62 : decode cX4_copyFrom 62 = .ok (.invokestatic 92, 3) := by decide +kernel
theorem dX4_copyFrom_65 : decode cX4_copyFrom 65 = .ok (.aload_n 1, 1) := by decide +kernel
theorem dX4_copyFrom_66 : decode cX4_copyFrom 66 = .ok (.getfield 32, 3) := by decide +kernel
theorem dX4_copyFrom_69 : decode cX4_copyFrom 69 = .ok (.iconst 0, 1) := by decide +kernel
theorem dX4_copyFrom_70 : decode cX4_copyFrom 70 = .ok (.aload_n 0, 1) := by decide +kernel
theorem dX4_copyFrom_71 : decode cX4_copyFrom 71 = .ok (.getfield 32, 3) := by decide +kernel
theorem dX4_copyFrom_74 : decode cX4_copyFrom 74 = .ok (.iconst 0, 1) := by decide +kernel
theorem dX4_copyFrom_75 : decode cX4_copyFrom 75 = .ok (.bipush 6, 2) := by decide +kernel
theorem dX4_copyFrom_77 : decode cX4_copyFrom 77 = .ok (.invokestatic 92, 3) := by decide +kernel
theorem dX4_copyFrom_80 : decode cX4_copyFrom 80 = .ok (.aload_n 1, 1) := by decide +kernel
theorem dX4_copyFrom_81 : decode cX4_copyFrom 81 = .ok (.getfield 35, 3) := by decide +kernel
theorem dX4_copyFrom_84 : decode cX4_copyFrom 84 = .ok (.iconst 0, 1) := by decide +kernel
theorem dX4_copyFrom_85 : decode cX4_copyFrom 85 = .ok (.aload_n 0, 1) := by decide +kernel
theorem dX4_copyFrom_86 : decode cX4_copyFrom 86 = .ok (.getfield 35, 3) := by decide +kernel
theorem dX4_copyFrom_89 : decode cX4_copyFrom 89 = .ok (.iconst 0, 1) := by decide +kernel
theorem dX4_copyFrom_90 : decode cX4_copyFrom 90 = .ok (.bipush 6, 2) := by decide +kernel
theorem dX4_copyFrom_92 : decode cX4_copyFrom 92 = .ok (.invokestatic 92, 3) := by decide +kernel
theorem dX4_copyFrom_95 : decode cX4_copyFrom 95 = .ok (.aload_n 0, 1) := by decide +kernel
theorem dX4_copyFrom_96 : decode cX4_copyFrom 96 = .ok (.aload_n 1, 1) := by decide +kernel
theorem dX4_copyFrom_97 : decode cX4_copyFrom 97 = .ok (.getfield 38, 3) := by decide +kernel
theorem dX4_copyFrom_100 : decode cX4_copyFrom 100 = .ok (.putfield 38, 3) := by decide +kernel
theorem dX4_copyFrom_103 : decode cX4_copyFrom 103 = .ok (.aload_n 1, 1) := by decide +kernel
theorem dX4_copyFrom_104 : decode cX4_copyFrom 104 = .ok (.getfield 41, 3) := by decide +kernel
theorem dX4_copyFrom_107 : decode cX4_copyFrom 107 = .ok (.iconst 0, 1) := by decide +kernel
theorem dX4_copyFrom_108 : decode cX4_copyFrom 108 = .ok (.aload_n 0, 1) := by decide +kernel
theorem dX4_copyFrom_109 : decode cX4_copyFrom 109 = .ok (.getfield 41, 3) := by decide +kernel
theorem dX4_copyFrom_112 : decode cX4_copyFrom 112 = .ok (.iconst 0, 1) := by decide +kernel
theorem dX4_copyFrom_113 : decode cX4_copyFrom 113 = .ok (.bipush 6, 2) := by decide +kernel
theorem dX4_copyFrom_115 : decode cX4_copyFrom 115 = .ok (.invokestatic 92, 3) := by decide +kernel
theorem dX4_copyFrom_118 : decode cX4_copyFrom 118 = .ok (.aload_n 1, 1) := by decide +kernel
theorem dX4_copyFrom_119 : decode cX4_copyFrom 119 = .ok (.getfield 44, 3) := by decide +kernel
theorem dX4_copyFrom_122 : decode cX4_copyFrom 122 = .ok (.iconst 0, 1) := by decide +kernel
theorem dX4_copyFrom_123 : decode cX4_copyFrom 123 = .ok (.aload_n 0, 1) := by decide +kernel
theorem dX4_copyFrom_124 : decode cX4_copyFrom 124 = .ok (.getfield 44, 3) := by decide +kernel
theorem dX4_copyFrom_127 : decode cX4_copyFrom 127 = .ok (.iconst 0, 1) := by decide +kernel
theorem dX4_copyFrom_128 : decode cX4_copyFrom 128 = .ok (.bipush 24, 2) := by decide +kernel
theorem dX4_copyFrom_130 : decode cX4_copyFrom 130 = .ok (.invokestatic 92, 3) := by decide +kernel
theorem dX4_copyFrom_133 : decode cX4_copyFrom 133 = .ok (.aload_n 0, 1) := by decide +kernel
theorem dX4_copyFrom_134 : decode cX4_copyFrom 134 = .ok (.aload_n 1, 1) := by decide +kernel
theorem dX4_copyFrom_135 : decode cX4_copyFrom 135 = .ok (.getfield 47, 3) := by decide +kernel
theorem dX4_copyFrom_138 : decode cX4_copyFrom 138 = .ok (.putfield 47, 3) := by decide +kernel
theorem dX4_copyFrom_141 : decode cX4_copyFrom 141 = .ok (.aload_n 0, 1) := by decide +kernel
theorem dX4_copyFrom_142 : decode cX4_copyFrom 142 = .ok (.aload_n 1, 1) := by decide +kernel
theorem dX4_copyFrom_143 : decode cX4_copyFrom 143 = .ok (.getfield 50, 3) := by decide +kernel
theorem dX4_copyFrom_146 : decode cX4_copyFrom 146 = .ok (.putfield 50, 3) := by decide +kernel
theorem dX4_copyFrom_149 : decode cX4_copyFrom 149 = .ok (.aload_n 0, 1) := by decide +kernel
theorem dX4_copyFrom_150 : decode cX4_copyFrom 150 = .ok (.aload_n 1, 1) := by decide +kernel
theorem dX4_copyFrom_151 : decode cX4_copyFrom 151 = .ok (.getfield 53, 3) := by decide +kernel
theorem dX4_copyFrom_154 : decode cX4_copyFrom 154 = .ok (.putfield 53, 3) := by decide +kernel
theorem dX4_copyFrom_157 : decode cX4_copyFrom 157 = .ok (.aload_n 0, 1) := by decide +kernel
theorem dX4_copyFrom_158 : decode cX4_copyFrom 158 = .ok (.aload_n 1, 1) := by decide +kernel
theorem dX4_copyFrom_159 : decode cX4_copyFrom 159 = .ok (.getfield 56, 3) := by decide +kernel
theorem dX4_copyFrom_162 : decode cX4_copyFrom 162 = .ok (.putfield 56, 3) := by decide +kernel
theorem dX4_copyFrom_165 : decode cX4_copyFrom 165 = .ok (.return_, 1) := by decide +kernel
def Wo_copyFrom (k : Nat) (q1 : Nat) (d : Mem) : Option (Unit × Mem) :=
  gref (d q1 10 0) fun u1 =>
  bnd (wrM d k 10 0 (nI u1)) fun d2 =>
  bd (De_copyFrom k q1 d2) fun r3 d4 =>
  if cpok (0 : Int32) (0 : Int32) (24 : Int32) 24 24 then
  bnd (wrAM d4 k 11 (va_cpy (d4 q1 11) (d4 k 11) (ix (0 : Int32)) (ix (0 : Int32)) (ix (24 : Int32)))) fun d5 =>
  bnd (wrM d5 k 10 3 (d5 q1 10 3)) fun d6 =>
  bnd (wrM d6 k 10 4 (d6 q1 10 4)) fun d7 =>
  if cpok (0 : Int32) (0 : Int32) (6 : Int32) 6 6 then
  bnd (wrAM d7 k 12 (va_cpy (d7 q1 12) (d7 k 12) (ix (0 : Int32)) (ix (0 : Int32)) (ix (6 : Int32)))) fun d8 =>
  if cpok (0 : Int32) (0 : Int32) (6 : Int32) 6 6 then
  bnd (wrAM d8 k 13 (va_cpy (d8 q1 13) (d8 k 13) (ix (0 : Int32)) (ix (0 : Int32)) (ix (6 : Int32)))) fun d9 =>
  if cpok (0 : Int32) (0 : Int32) (6 : Int32) 6 6 then
  bnd (wrAM d9 k 14 (va_cpy (d9 q1 14) (d9 k 14) (ix (0 : Int32)) (ix (0 : Int32)) (ix (6 : Int32)))) fun d10 =>
  bnd (wrM d10 k 10 8 (d10 q1 10 8)) fun d11 =>
  if cpok (0 : Int32) (0 : Int32) (6 : Int32) 6 6 then
  bnd (wrAM d11 k 15 (va_cpy (d11 q1 15) (d11 k 15) (ix (0 : Int32)) (ix (0 : Int32)) (ix (6 : Int32)))) fun d12 =>
  if cpok (0 : Int32) (0 : Int32) (24 : Int32) 24 24 then
  bnd (wrAM d12 k 16 (va_cpy (d12 q1 16) (d12 k 16) (ix (0 : Int32)) (ix (0 : Int32)) (ix (24 : Int32)))) fun d13 =>
  bnd (wrM d13 k 10 11 (d13 q1 10 11)) fun d14 =>
  bnd (wrM d14 k 10 12 (d14 q1 10 12)) fun d15 =>
  bnd (wrM d15 k 10 13 (d15 q1 10 13)) fun d16 =>
  bnd (wrM d16 k 10 14 (d16 q1 10 14)) fun d17 =>
  some ((), d17)
  else none
  else none
  else none
  else none
  else none
  else none
theorem y_X4_copyFrom : YV yX4_copyFrom cX4_copyFrom 2 none 1 := ⟨q617, q618, q619, q146, by decide +kernel, by decide +kernel, by decide +kernel, by decide +kernel⟩
theorem r_Wo_copyFrom {C : Cxt} {G : Geo} {k : Nat} {q1 : Nat} (hC : Cx C cX4_copyFrom 2 "FrameHeirs$World" none rm_X4_copyFrom G) (hcl : GCl G) (hX : LXx G) (hT : LSt G) (hk : LWd G k) (gk : 2 ≤ k) (hq1 : LWd G q1) (gq1 : 2 ≤ q1) (d : Mem) : Rz C 2 G gm (poM avV gm) 0 [(0, .inr (k, 10)), (1, .inr (q1, 10))] [] d (Wo_copyFrom k q1 d) := by
  unfold Wo_copyFrom
  refine z_aload_n (pc := 0) hC 0 rfl 0 rfl dX4_copyFrom_0 ?_
  refine z_aload_n (pc := 1) hC 1 rfl 1 rfl dX4_copyFrom_1 ?_
  refine zg_getS (pc := 2) hC hcl (hq1 10 rfl) f_10_0 q377 dX4_copyFrom_2 (fun u1 hu1 gu1 => ?_)
  refine zg_putr (pc := 5) (cn := "FrameHeirs$Script") hC (hk 10 rfl) (hu1 4 rfl) f_10_0 q377 (by decide +kernel) dX4_copyFrom_5 (fun d2 => ?_)
  refine z_aload_n (pc := 8) hC 0 rfl 0 rfl dX4_copyFrom_8 ?_
  refine z_getc (pc := 9) hC (hk 10 rfl) f_10_1 q378 dX4_copyFrom_9 ?_
  refine z_aload_n (pc := 12) hC 1 rfl 1 rfl dX4_copyFrom_12 ?_
  refine z_getc (pc := 13) hC (hq1 10 rfl) f_10_1 q378 dX4_copyFrom_13 ?_
  refine z_cvV (pc := 16) (st := []) hC y_X0_copyFrom q620 [.inr (q1, 17)] rfl (hk 17 rfl) rfl rfl (c_X0_copyFrom hC.2.2.2.2.2.2.1 hcl hX hT hk gk hq1 gq1) rfl ⟨rfl, rfl, (Nat.le_of_ble_eq_true rfl), (Nat.le_of_ble_eq_true rfl)⟩ (Nat.le_of_ble_eq_true rfl) dX4_copyFrom_16 (fun r3 d4 => ?_)
  refine z_aload_n (pc := 19) hC 1 rfl 1 rfl dX4_copyFrom_19 ?_
  refine z_getc (pc := 20) hC (hq1 10 rfl) f_10_2 q380 dX4_copyFrom_20 ?_
  refine z_iconst (pc := 23) hC (0 : Int32) rfl dX4_copyFrom_23 ?_
  refine z_aload_n (pc := 24) hC 0 rfl 0 rfl dX4_copyFrom_24 ?_
  refine z_getc (pc := 25) hC (hk 10 rfl) f_10_2 q380 dX4_copyFrom_25 ?_
  refine z_iconst (pc := 28) hC (0 : Int32) rfl dX4_copyFrom_28 ?_
  refine z_bipush (pc := 29) hC (24 : Int32) rfl dX4_copyFrom_29 ?_
  refine zg_cpi (pc := 31) hC (hq1 11 rfl) (hk 11 rfl) (by decide) rfl rfl q627 q626 q625 q151 (Nat.le_of_ble_eq_true rfl) (by decide +kernel) dX4_copyFrom_31 (fun d5 => ?_)
  refine z_aload_n (pc := 34) hC 0 rfl 0 rfl dX4_copyFrom_34 ?_
  refine z_aload_n (pc := 35) hC 1 rfl 1 rfl dX4_copyFrom_35 ?_
  refine zg_geti (pc := 36) hC (hq1 10 rfl) f_10_3 q381 dX4_copyFrom_36 ?_
  refine zg_puti (pc := 39) hC (hk 10 rfl) f_10_3 q381 dX4_copyFrom_39 (fun d6 => ?_)
  refine z_aload_n (pc := 42) hC 0 rfl 0 rfl dX4_copyFrom_42 ?_
  refine z_aload_n (pc := 43) hC 1 rfl 1 rfl dX4_copyFrom_43 ?_
  refine zg_geti (pc := 44) hC (hq1 10 rfl) f_10_4 q383 dX4_copyFrom_44 ?_
  refine zg_puti (pc := 47) hC (hk 10 rfl) f_10_4 q383 dX4_copyFrom_47 (fun d7 => ?_)
  refine z_aload_n (pc := 50) hC 1 rfl 1 rfl dX4_copyFrom_50 ?_
  refine z_getc (pc := 51) hC (hq1 10 rfl) f_10_5 q384 dX4_copyFrom_51 ?_
  refine z_iconst (pc := 54) hC (0 : Int32) rfl dX4_copyFrom_54 ?_
  refine z_aload_n (pc := 55) hC 0 rfl 0 rfl dX4_copyFrom_55 ?_
  refine z_getc (pc := 56) hC (hk 10 rfl) f_10_5 q384 dX4_copyFrom_56 ?_
  refine z_iconst (pc := 59) hC (0 : Int32) rfl dX4_copyFrom_59 ?_
  refine z_bipush (pc := 60) hC (6 : Int32) rfl dX4_copyFrom_60 ?_
  refine zg_cpi (pc := 62) hC (hq1 12 rfl) (hk 12 rfl) (by decide) rfl rfl q627 q626 q625 q151 (Nat.le_of_ble_eq_true rfl) (by decide +kernel) dX4_copyFrom_62 (fun d8 => ?_)
  refine z_aload_n (pc := 65) hC 1 rfl 1 rfl dX4_copyFrom_65 ?_
  refine z_getc (pc := 66) hC (hq1 10 rfl) f_10_6 q385 dX4_copyFrom_66 ?_
  refine z_iconst (pc := 69) hC (0 : Int32) rfl dX4_copyFrom_69 ?_
  refine z_aload_n (pc := 70) hC 0 rfl 0 rfl dX4_copyFrom_70 ?_
  refine z_getc (pc := 71) hC (hk 10 rfl) f_10_6 q385 dX4_copyFrom_71 ?_
  refine z_iconst (pc := 74) hC (0 : Int32) rfl dX4_copyFrom_74 ?_
  refine z_bipush (pc := 75) hC (6 : Int32) rfl dX4_copyFrom_75 ?_
  refine zg_cpi (pc := 77) hC (hq1 13 rfl) (hk 13 rfl) (by decide) rfl rfl q627 q626 q625 q151 (Nat.le_of_ble_eq_true rfl) (by decide +kernel) dX4_copyFrom_77 (fun d9 => ?_)
  refine z_aload_n (pc := 80) hC 1 rfl 1 rfl dX4_copyFrom_80 ?_
  refine z_getc (pc := 81) hC (hq1 10 rfl) f_10_7 q386 dX4_copyFrom_81 ?_
  refine z_iconst (pc := 84) hC (0 : Int32) rfl dX4_copyFrom_84 ?_
  refine z_aload_n (pc := 85) hC 0 rfl 0 rfl dX4_copyFrom_85 ?_
  refine z_getc (pc := 86) hC (hk 10 rfl) f_10_7 q386 dX4_copyFrom_86 ?_
  refine z_iconst (pc := 89) hC (0 : Int32) rfl dX4_copyFrom_89 ?_
  refine z_bipush (pc := 90) hC (6 : Int32) rfl dX4_copyFrom_90 ?_
  refine zg_cpi (pc := 92) hC (hq1 14 rfl) (hk 14 rfl) (by decide) rfl rfl q627 q626 q625 q151 (Nat.le_of_ble_eq_true rfl) (by decide +kernel) dX4_copyFrom_92 (fun d10 => ?_)
  refine z_aload_n (pc := 95) hC 0 rfl 0 rfl dX4_copyFrom_95 ?_
  refine z_aload_n (pc := 96) hC 1 rfl 1 rfl dX4_copyFrom_96 ?_
  refine zg_geti (pc := 97) hC (hq1 10 rfl) f_10_8 q387 dX4_copyFrom_97 ?_
  refine zg_puti (pc := 100) hC (hk 10 rfl) f_10_8 q387 dX4_copyFrom_100 (fun d11 => ?_)
  refine z_aload_n (pc := 103) hC 1 rfl 1 rfl dX4_copyFrom_103 ?_
  refine z_getc (pc := 104) hC (hq1 10 rfl) f_10_9 q388 dX4_copyFrom_104 ?_
  refine z_iconst (pc := 107) hC (0 : Int32) rfl dX4_copyFrom_107 ?_
  refine z_aload_n (pc := 108) hC 0 rfl 0 rfl dX4_copyFrom_108 ?_
  refine z_getc (pc := 109) hC (hk 10 rfl) f_10_9 q388 dX4_copyFrom_109 ?_
  refine z_iconst (pc := 112) hC (0 : Int32) rfl dX4_copyFrom_112 ?_
  refine z_bipush (pc := 113) hC (6 : Int32) rfl dX4_copyFrom_113 ?_
  refine zg_cpi (pc := 115) hC (hq1 15 rfl) (hk 15 rfl) (by decide) rfl rfl q627 q626 q625 q151 (Nat.le_of_ble_eq_true rfl) (by decide +kernel) dX4_copyFrom_115 (fun d12 => ?_)
  refine z_aload_n (pc := 118) hC 1 rfl 1 rfl dX4_copyFrom_118 ?_
  refine z_getc (pc := 119) hC (hq1 10 rfl) f_10_10 q389 dX4_copyFrom_119 ?_
  refine z_iconst (pc := 122) hC (0 : Int32) rfl dX4_copyFrom_122 ?_
  refine z_aload_n (pc := 123) hC 0 rfl 0 rfl dX4_copyFrom_123 ?_
  refine z_getc (pc := 124) hC (hk 10 rfl) f_10_10 q389 dX4_copyFrom_124 ?_
  refine z_iconst (pc := 127) hC (0 : Int32) rfl dX4_copyFrom_127 ?_
  refine z_bipush (pc := 128) hC (24 : Int32) rfl dX4_copyFrom_128 ?_
  refine zg_cpi (pc := 130) hC (hq1 16 rfl) (hk 16 rfl) (by decide) rfl rfl q627 q626 q625 q151 (Nat.le_of_ble_eq_true rfl) (by decide +kernel) dX4_copyFrom_130 (fun d13 => ?_)
  refine z_aload_n (pc := 133) hC 0 rfl 0 rfl dX4_copyFrom_133 ?_
  refine z_aload_n (pc := 134) hC 1 rfl 1 rfl dX4_copyFrom_134 ?_
  refine zg_geti (pc := 135) hC (hq1 10 rfl) f_10_11 q391 dX4_copyFrom_135 ?_
  refine zg_puti (pc := 138) hC (hk 10 rfl) f_10_11 q391 dX4_copyFrom_138 (fun d14 => ?_)
  refine z_aload_n (pc := 141) hC 0 rfl 0 rfl dX4_copyFrom_141 ?_
  refine z_aload_n (pc := 142) hC 1 rfl 1 rfl dX4_copyFrom_142 ?_
  refine zg_geti (pc := 143) hC (hq1 10 rfl) f_10_12 q393 dX4_copyFrom_143 ?_
  refine zg_puti (pc := 146) hC (hk 10 rfl) f_10_12 q393 dX4_copyFrom_146 (fun d15 => ?_)
  refine z_aload_n (pc := 149) hC 0 rfl 0 rfl dX4_copyFrom_149 ?_
  refine z_aload_n (pc := 150) hC 1 rfl 1 rfl dX4_copyFrom_150 ?_
  refine zg_geti (pc := 151) hC (hq1 10 rfl) f_10_13 q395 dX4_copyFrom_151 ?_
  refine zg_puti (pc := 154) hC (hk 10 rfl) f_10_13 q395 dX4_copyFrom_154 (fun d16 => ?_)
  refine z_aload_n (pc := 157) hC 0 rfl 0 rfl dX4_copyFrom_157 ?_
  refine z_aload_n (pc := 158) hC 1 rfl 1 rfl dX4_copyFrom_158 ?_
  refine zg_geti (pc := 159) hC (hq1 10 rfl) f_10_14 q397 dX4_copyFrom_159 ?_
  refine zg_puti (pc := 162) hC (hk 10 rfl) f_10_14 q397 dX4_copyFrom_162 (fun d17 => ?_)
  exact z_vret (pc := 165) hC rfl dX4_copyFrom_165
theorem c_X4_copyFrom {G : Geo} {k : Nat} {q1 : Nat} (hG : GOk G) (hcl : GCl G) (hX : LXx G) (hT : LSt G) (hk : LWd G k) (gk : 2 ≤ k) (hq1 : LWd G q1) (gq1 : 2 ≤ q1) {d : Mem} (l : Launch) (r : Unit) (d1 : Mem) (h : Wo_copyFrom k q1 d = some (r, d1)) : Mt l yX4_copyFrom cX4_copyFrom 2 none rm_X4_copyFrom G [.inr (k, 10), .inr (q1, 10)] (gm d) (avV r) (gm d1) :=
  mt_of (mem := gm) (po := poM avV gm) (x0 := d) (t := (r, d1)) rfl hG [.inr (k, 10), .inr (q1, 10)] (Nat.le_of_ble_eq_true rfl) rfl (fun C hC => r_Wo_copyFrom hC hcl hX hT hk gk hq1 gq1 d) h
-- FrameHeirs.tapeNumber(I)V
abbrev rm_X5_tapeNumber : Room := { frames := 0, cells := 0, slots := 0, locals := 0 }
theorem dX5_tapeNumber_0 : decode cX5_tapeNumber 0 = .ok (.bipush 24, 2) := by decide +kernel
theorem dX5_tapeNumber_2 : decode cX5_tapeNumber 2 = .ok (.istore_n 2, 1) := by decide +kernel
theorem dX5_tapeNumber_3 : decode cX5_tapeNumber 3 = .ok (.iload_n 2, 1) := by decide +kernel
theorem dX5_tapeNumber_4 : decode cX5_tapeNumber 4 = .ok (.ifCond .lt 45, 3) := by decide +kernel
theorem dX5_tapeNumber_7 : decode cX5_tapeNumber 7 = .ok (.aload_n 0, 1) := by decide +kernel
theorem dX5_tapeNumber_8 : decode cX5_tapeNumber 8 = .ok (.getfield 13, 3) := by decide +kernel
theorem dX5_tapeNumber_11 : decode cX5_tapeNumber 11 = .ok (.sipush 700, 3) := by decide +kernel
theorem dX5_tapeNumber_14 : decode cX5_tapeNumber 14 = .ok (.if_icmp .ge 35, 3) := by decide +kernel
theorem dX5_tapeNumber_17 : decode cX5_tapeNumber 17 = .ok (.aload_n 0, 1) := by decide +kernel
theorem dX5_tapeNumber_18 : decode cX5_tapeNumber 18 = .ok (.getfield 9, 3) := by decide +kernel
theorem dX5_tapeNumber_21 : decode cX5_tapeNumber 21 = .ok (.aload_n 0, 1) := by decide +kernel
theorem dX5_tapeNumber_22 : decode cX5_tapeNumber 22 = .ok (.getfield 13, 3) := by decide +kernel
theorem dX5_tapeNumber_25 : decode cX5_tapeNumber 25 = .ok (.iload_n 1, 1) := by decide +kernel
theorem dX5_tapeNumber_26 : decode cX5_tapeNumber 26 = .ok (.iload_n 2, 1) := by decide +kernel
theorem dX5_tapeNumber_27 : decode cX5_tapeNumber 27 = .ok (.ishr, 1) := by decide +kernel
theorem dX5_tapeNumber_28 : decode cX5_tapeNumber 28 = .ok (.sipush 255, 3) := by decide +kernel
theorem dX5_tapeNumber_31 : decode cX5_tapeNumber 31 = .ok (.iand, 1) := by decide +kernel
theorem dX5_tapeNumber_32 : decode cX5_tapeNumber 32 = .ok (.iastore, 1) := by decide +kernel
theorem dX5_tapeNumber_33 : decode cX5_tapeNumber 33 = .ok (.aload_n 0, 1) := by decide +kernel
theorem dX5_tapeNumber_34 : decode cX5_tapeNumber 34 = .ok (.dup, 1) := by decide +kernel
theorem dX5_tapeNumber_35 : decode cX5_tapeNumber 35 = .ok (.getfield 13, 3) := by decide +kernel
theorem dX5_tapeNumber_38 : decode cX5_tapeNumber 38 = .ok (.iconst 1, 1) := by decide +kernel
theorem dX5_tapeNumber_39 : decode cX5_tapeNumber 39 = .ok (.iadd, 1) := by decide +kernel
theorem dX5_tapeNumber_40 : decode cX5_tapeNumber 40 = .ok (.putfield 13, 3) := by decide +kernel
theorem dX5_tapeNumber_43 : decode cX5_tapeNumber 43 = .ok (.iinc 2 (-8), 3) := by decide +kernel
theorem dX5_tapeNumber_46 : decode cX5_tapeNumber 46 = .ok (.goto (-43), 3) := by decide +kernel
theorem dX5_tapeNumber_49 : decode cX5_tapeNumber 49 = .ok (.return_, 1) := by decide +kernel
def Fh_tapeNumber_3 : Nat → Int32 → Int32 → Mem → Option (Unit × Mem)
  | 0, _, _, _ => none
  | n + 1, v1, v2, d =>
    if v2 < 0 then
      (some ((), d))
    else
      (if (700 : Int32) ≤ (d 0 0 1) then
        (some ((), d))
      else
        (if inb (d 0 0 1) 700 then
        bnd (wrM d 0 1 (ix (d 0 0 1)) ((v1 >>> (v2 &&& 31)) &&& (255 : Int32))) fun d1 =>
        bnd (wrM d1 0 0 1 ((d1 0 0 1) + (1 : Int32))) fun d2 =>
        bnd (v2 + (-8 : Int32)) fun v2_3 =>
        Fh_tapeNumber_3 n v1 v2_3 d2
        else none))
def Fh_tapeNumber (d : Mem) (a1 : Int32) : Option (Unit × Mem) :=
  bnd (24 : Int32) fun v2_4 =>
  Fh_tapeNumber_3 FU a1 v2_4 d
theorem y_X5_tapeNumber : YV yX5_tapeNumber cX5_tapeNumber 3 none 1 := ⟨q468, q0, q469, q143, by decide +kernel, by decide +kernel, by decide +kernel, by decide +kernel⟩
theorem r_Fh_tapeNumber_3 {C : Cxt} {G : Geo} (hC : Cx C cX5_tapeNumber 3 "FrameHeirs" none rm_X5_tapeNumber G) (hcl : GCl G) (hX : LXx G) (hT : LSt G) : ∀ (n : Nat) (v1 : Int32) (v2 : Int32) (d : Mem), Rz C 3 G gm (poM avV gm) 3 [(0, .inr (0, 0)), (1, .inl (.int v1)), (2, .inl (.int v2))] [] d (Fh_tapeNumber_3 n v1 v2 d) := by
  intro n
  induction n with
  | zero => intros; exact z_none
  | succ n ih =>
    intro v1 v2 d
    rw [Fh_tapeNumber_3]
    refine z_iload_n (pc := 3) hC 2 rfl 2 rfl dX5_tapeNumber_3 ?_
    refine z_if_lt (pc := 4) hC 49 rfl dX5_tapeNumber_4 ?_ ?_
    · exact z_vret (pc := 49) hC rfl dX5_tapeNumber_49
    · refine z_aload_n (pc := 7) hC 0 rfl 0 rfl dX5_tapeNumber_7 ?_
      refine zg_geti (pc := 8) hC (hX 0 rfl) f_0_1 q432 dX5_tapeNumber_8 ?_
      refine z_sipush (pc := 11) hC (700 : Int32) rfl dX5_tapeNumber_11 ?_
      refine z_icmp_ge (pc := 14) hC 49 rfl dX5_tapeNumber_14 ?_ ?_
      · exact z_vret (pc := 49) hC rfl dX5_tapeNumber_49
      · refine z_aload_n (pc := 17) hC 0 rfl 0 rfl dX5_tapeNumber_17 ?_
        refine z_getc (pc := 18) hC (hX 0 rfl) f_0_0 q431 dX5_tapeNumber_18 ?_
        refine z_aload_n (pc := 21) hC 0 rfl 0 rfl dX5_tapeNumber_21 ?_
        refine zg_geti (pc := 22) hC (hX 0 rfl) f_0_1 q432 dX5_tapeNumber_22 ?_
        refine z_iload_n (pc := 25) hC 1 rfl 1 rfl dX5_tapeNumber_25 ?_
        refine z_iload_n (pc := 26) hC 2 rfl 2 rfl dX5_tapeNumber_26 ?_
        refine z_ishr (pc := 27) hC dX5_tapeNumber_27 ?_
        refine z_sipush (pc := 28) hC (255 : Int32) rfl dX5_tapeNumber_28 ?_
        refine z_iand (pc := 31) hC dX5_tapeNumber_31 ?_
        refine zg_iast (pc := 32) hC (hX 1 rfl) (by decide) rfl dX5_tapeNumber_32 (fun d1 => ?_)
        refine z_aload_n (pc := 33) hC 0 rfl 0 rfl dX5_tapeNumber_33 ?_
        refine z_dup (pc := 34) hC rfl dX5_tapeNumber_34 ?_
        refine zg_geti (pc := 35) hC (hX 0 rfl) f_0_1 q432 dX5_tapeNumber_35 ?_
        refine z_iconst (pc := 38) hC (1 : Int32) rfl dX5_tapeNumber_38 ?_
        refine z_iadd (pc := 39) hC dX5_tapeNumber_39 ?_
        refine zg_puti (pc := 40) hC (hX 0 rfl) f_0_1 q432 dX5_tapeNumber_40 (fun d2 => ?_)
        refine z_iinc (pc := 43) (ls1 := fun v => [(2, .inl (.int v)), (0, .inr (0, 0)), (1, .inl (.int v1))]) hC 2 2 (by decide) (-8 : Int32) rfl rfl (fun v => rfl) dX5_tapeNumber_43 (fun v2_3 => ?_)
        refine z_goto (pc := 46) hC 3 rfl dX5_tapeNumber_46 ?_
        exact z_sub [1, 2, 0] rfl (ih v1 v2_3 d2)
theorem r_Fh_tapeNumber {C : Cxt} {G : Geo} (hC : Cx C cX5_tapeNumber 3 "FrameHeirs" none rm_X5_tapeNumber G) (hcl : GCl G) (hX : LXx G) (hT : LSt G) (d : Mem) (a1 : Int32) : Rz C 3 G gm (poM avV gm) 0 [(0, .inr (0, 0)), (1, .inl (.int a1))] [] d (Fh_tapeNumber d a1) := by
  unfold Fh_tapeNumber
  refine z_bipush (pc := 0) hC (24 : Int32) rfl dX5_tapeNumber_0 ?_
  refine z_istore_n (pc := 2) (ls1 := fun v => [(2, .inl (.int v)), (0, .inr (0, 0)), (1, .inl (.int a1))]) hC 2 rfl (by decide) (fun v => rfl) dX5_tapeNumber_2 (fun v2_4 => ?_)
  exact z_sub [1, 2, 0] rfl (r_Fh_tapeNumber_3 hC hcl hX hT FU a1 v2_4 d)
theorem c_X5_tapeNumber {G : Geo} (hG : GOk G) (hcl : GCl G) (hX : LXx G) (hT : LSt G) {d : Mem} {a1 : Int32} (l : Launch) (r : Unit) (d1 : Mem) (h : Fh_tapeNumber d a1 = some (r, d1)) : Mt l yX5_tapeNumber cX5_tapeNumber 3 none rm_X5_tapeNumber G [.inr (0, 0), .inl (.int a1)] (gm d) (avV r) (gm d1) :=
  mt_of (mem := gm) (po := poM avV gm) (x0 := d) (t := (r, d1)) rfl hG [.inr (0, 0), .inl (.int a1)] (Nat.le_of_ble_eq_true rfl) rfl (fun C hC => r_Fh_tapeNumber hC hcl hX hT d a1) h
-- FrameHeirs.feed(IIIII)I
abbrev rm_X5_feed : Room := { frames := 1, cells := 0, slots := 0, locals := 22 }
theorem dX5_feed_0 : decode cX5_feed 0 = .ok (.aload_n 0, 1) := by decide +kernel
theorem dX5_feed_1 : decode cX5_feed 1 = .ok (.getfield 13, 3) := by decide +kernel
theorem dX5_feed_4 : decode cX5_feed 4 = .ok (.bipush 20, 2) := by decide +kernel
theorem dX5_feed_6 : decode cX5_feed 6 = .ok (.iadd, 1) := by decide +kernel
theorem dX5_feed_7 : decode cX5_feed 7 = .ok (.sipush 700, 3) := by decide +kernel
theorem dX5_feed_10 : decode cX5_feed 10 = .ok (.if_icmp .le 5, 3) := by decide +kernel
theorem dX5_feed_13 : decode cX5_feed 13 = .ok (.iconst (-1), 1) := by decide +kernel
theorem dX5_feed_14 : decode cX5_feed 14 = .ok (.ireturn, 1) := by decide +kernel
theorem dX5_feed_15 : decode cX5_feed 15 = .ok (.aload_n 0, 1) := by decide +kernel
theorem dX5_feed_16 : decode cX5_feed 16 = .ok (.iload_n 1, 1) := by decide +kernel
theorem dX5_feed_17 : decode cX5_feed 17 = .ok (.invokevirtual 61, 3) := by decide +kernel
theorem dX5_feed_20 : decode cX5_feed 20 = .ok (.aload_n 0, 1) := by decide +kernel
theorem dX5_feed_21 : decode cX5_feed 21 = .ok (.iload_n 2, 1) := by decide +kernel
theorem dX5_feed_22 : decode cX5_feed 22 = .ok (.invokevirtual 61, 3) := by decide +kernel
theorem dX5_feed_25 : decode cX5_feed 25 = .ok (.aload_n 0, 1) := by decide +kernel
theorem dX5_feed_26 : decode cX5_feed 26 = .ok (.iload_n 3, 1) := by decide +kernel
theorem dX5_feed_27 : decode cX5_feed 27 = .ok (.invokevirtual 61, 3) := by decide +kernel
theorem dX5_feed_30 : decode cX5_feed 30 = .ok (.aload_n 0, 1) := by decide +kernel
theorem dX5_feed_31 : decode cX5_feed 31 = .ok (.iload 4, 2) := by decide +kernel
theorem dX5_feed_33 : decode cX5_feed 33 = .ok (.invokevirtual 61, 3) := by decide +kernel
theorem dX5_feed_36 : decode cX5_feed 36 = .ok (.aload_n 0, 1) := by decide +kernel
theorem dX5_feed_37 : decode cX5_feed 37 = .ok (.iload 5, 2) := by decide +kernel
theorem dX5_feed_39 : decode cX5_feed 39 = .ok (.invokevirtual 61, 3) := by decide +kernel
theorem dX5_feed_42 : decode cX5_feed 42 = .ok (.aload_n 0, 1) := by decide +kernel
theorem dX5_feed_43 : decode cX5_feed 43 = .ok (.getfield 13, 3) := by decide +kernel
theorem dX5_feed_46 : decode cX5_feed 46 = .ok (.ireturn, 1) := by decide +kernel
def Fh_feed (d : Mem) (a1 : Int32) (a2 : Int32) (a3 : Int32) (a4 : Int32) (a5 : Int32) : Option (Int32 × Mem) :=
  if ((d 0 0 1) + (20 : Int32)) ≤ (700 : Int32) then
    (bd (Fh_tapeNumber d a1) fun r1 d2 =>
    bd (Fh_tapeNumber d2 a2) fun r3 d4 =>
    bd (Fh_tapeNumber d4 a3) fun r5 d6 =>
    bd (Fh_tapeNumber d6 a4) fun r7 d8 =>
    bd (Fh_tapeNumber d8 a5) fun r9 d10 =>
    some ((d10 0 0 1), d10))
  else
    (some ((-1 : Int32), d))
theorem y_X5_feed : YV yX5_feed cX5_feed 6 (some .int) 5 := ⟨q463, q464, q465, q143, by decide +kernel, by decide +kernel, by decide +kernel, by decide +kernel⟩
theorem r_Fh_feed {C : Cxt} {G : Geo} (hC : Cx C cX5_feed 6 "FrameHeirs" (some .int) rm_X5_feed G) (hcl : GCl G) (hX : LXx G) (hT : LSt G) (d : Mem) (a1 : Int32) (a2 : Int32) (a3 : Int32) (a4 : Int32) (a5 : Int32) : Rz C 6 G gm (poM avI gm) 0 [(0, .inr (0, 0)), (1, .inl (.int a1)), (2, .inl (.int a2)), (3, .inl (.int a3)), (4, .inl (.int a4)), (5, .inl (.int a5))] [] d (Fh_feed d a1 a2 a3 a4 a5) := by
  unfold Fh_feed
  refine z_aload_n (pc := 0) hC 0 rfl 0 rfl dX5_feed_0 ?_
  refine zg_geti (pc := 1) hC (hX 0 rfl) f_0_1 q432 dX5_feed_1 ?_
  refine z_bipush (pc := 4) hC (20 : Int32) rfl dX5_feed_4 ?_
  refine z_iadd (pc := 6) hC dX5_feed_6 ?_
  refine z_sipush (pc := 7) hC (700 : Int32) rfl dX5_feed_7 ?_
  refine z_icmp_le (pc := 10) hC 15 rfl dX5_feed_10 ?_ ?_
  · refine z_aload_n (pc := 15) hC 0 rfl 0 rfl dX5_feed_15 ?_
    refine z_iload_n (pc := 16) hC 1 rfl 1 rfl dX5_feed_16 ?_
    refine z_cvV (pc := 17) (st := []) hC y_X5_tapeNumber q466 [.inl (.int a1)] rfl (hX 0 rfl) rfl rfl (c_X5_tapeNumber hC.2.2.2.2.2.2.1 hcl hX hT) rfl ⟨rfl, rfl, (Nat.le_of_ble_eq_true rfl), (Nat.le_of_ble_eq_true rfl)⟩ (Nat.le_of_ble_eq_true rfl) dX5_feed_17 (fun r1 d2 => ?_)
    refine z_aload_n (pc := 20) hC 0 rfl 0 rfl dX5_feed_20 ?_
    refine z_iload_n (pc := 21) hC 2 rfl 2 rfl dX5_feed_21 ?_
    refine z_cvV (pc := 22) (st := []) hC y_X5_tapeNumber q466 [.inl (.int a2)] rfl (hX 0 rfl) rfl rfl (c_X5_tapeNumber hC.2.2.2.2.2.2.1 hcl hX hT) rfl ⟨rfl, rfl, (Nat.le_of_ble_eq_true rfl), (Nat.le_of_ble_eq_true rfl)⟩ (Nat.le_of_ble_eq_true rfl) dX5_feed_22 (fun r3 d4 => ?_)
    refine z_aload_n (pc := 25) hC 0 rfl 0 rfl dX5_feed_25 ?_
    refine z_iload_n (pc := 26) hC 3 rfl 3 rfl dX5_feed_26 ?_
    refine z_cvV (pc := 27) (st := []) hC y_X5_tapeNumber q466 [.inl (.int a3)] rfl (hX 0 rfl) rfl rfl (c_X5_tapeNumber hC.2.2.2.2.2.2.1 hcl hX hT) rfl ⟨rfl, rfl, (Nat.le_of_ble_eq_true rfl), (Nat.le_of_ble_eq_true rfl)⟩ (Nat.le_of_ble_eq_true rfl) dX5_feed_27 (fun r5 d6 => ?_)
    refine z_aload_n (pc := 30) hC 0 rfl 0 rfl dX5_feed_30 ?_
    refine z_iload (pc := 31) hC 4 4 rfl dX5_feed_31 ?_
    refine z_cvV (pc := 33) (st := []) hC y_X5_tapeNumber q466 [.inl (.int a4)] rfl (hX 0 rfl) rfl rfl (c_X5_tapeNumber hC.2.2.2.2.2.2.1 hcl hX hT) rfl ⟨rfl, rfl, (Nat.le_of_ble_eq_true rfl), (Nat.le_of_ble_eq_true rfl)⟩ (Nat.le_of_ble_eq_true rfl) dX5_feed_33 (fun r7 d8 => ?_)
    refine z_aload_n (pc := 36) hC 0 rfl 0 rfl dX5_feed_36 ?_
    refine z_iload (pc := 37) hC 5 5 rfl dX5_feed_37 ?_
    refine z_cvV (pc := 39) (st := []) hC y_X5_tapeNumber q466 [.inl (.int a5)] rfl (hX 0 rfl) rfl rfl (c_X5_tapeNumber hC.2.2.2.2.2.2.1 hcl hX hT) rfl ⟨rfl, rfl, (Nat.le_of_ble_eq_true rfl), (Nat.le_of_ble_eq_true rfl)⟩ (Nat.le_of_ble_eq_true rfl) dX5_feed_39 (fun r9 d10 => ?_)
    refine z_aload_n (pc := 42) hC 0 rfl 0 rfl dX5_feed_42 ?_
    refine zg_geti (pc := 43) hC (hX 0 rfl) f_0_1 q432 dX5_feed_43 ?_
    exact z_iret (pc := 46) hC rfl dX5_feed_46
  · refine z_iconst (pc := 13) hC (-1 : Int32) rfl dX5_feed_13 ?_
    exact z_iret (pc := 14) hC rfl dX5_feed_14
theorem c_X5_feed {G : Geo} (hG : GOk G) (hcl : GCl G) (hX : LXx G) (hT : LSt G) {d : Mem} {a1 : Int32} {a2 : Int32} {a3 : Int32} {a4 : Int32} {a5 : Int32} (l : Launch) (r : Int32) (d1 : Mem) (h : Fh_feed d a1 a2 a3 a4 a5 = some (r, d1)) : Mt l yX5_feed cX5_feed 6 (some .int) rm_X5_feed G [.inr (0, 0), .inl (.int a1), .inl (.int a2), .inl (.int a3), .inl (.int a4), .inl (.int a5)] (gm d) (avI r) (gm d1) :=
  mt_of (mem := gm) (po := poM avI gm) (x0 := d) (t := (r, d1)) rfl hG [.inr (0, 0), .inl (.int a1), .inl (.int a2), .inl (.int a3), .inl (.int a4), .inl (.int a5)] (Nat.le_of_ble_eq_true rfl) rfl (fun C hC => r_Fh_feed hC hcl hX hT d a1 a2 a3 a4 a5) h
-- FrameHeirs.text(I)I
abbrev rm_X5_text : Room := { frames := 6, cells := 0, slots := 0, locals := 132 }
theorem dX5_text_0 : decode cX5_text 0 = .ok (.iload_n 1, 1) := by decide +kernel
theorem dX5_text_1 : decode cX5_text 1 = .ok (.ifCond .lt 11, 3) := by decide +kernel
theorem dX5_text_4 : decode cX5_text 4 = .ok (.iload_n 1, 1) := by decide +kernel
theorem dX5_text_5 : decode cX5_text 5 = .ok (.aload_n 0, 1) := by decide +kernel
theorem dX5_text_6 : decode cX5_text 6 = .ok (.getfield 13, 3) := by decide +kernel
theorem dX5_text_9 : decode cX5_text 9 = .ok (.if_icmp .le 6, 3) := by decide +kernel
theorem dX5_text_12 : decode cX5_text 12 = .ok (.bipush (-2), 2) := by decide +kernel
theorem dX5_text_14 : decode cX5_text 14 = .ok (.ireturn, 1) := by decide +kernel
theorem dX5_text_15 : decode cX5_text 15 = .ok (.aload_n 0, 1) := by decide +kernel
theorem dX5_text_16 : decode cX5_text 16 = .ok (.iconst 0, 1) := by decide +kernel
theorem dX5_text_17 : decode cX5_text 17 = .ok (.putfield 13, 3) := by decide +kernel
theorem dX5_text_20 : decode cX5_text 20 = .ok (.aload_n 0, 1) := by decide +kernel
theorem dX5_text_21 : decode cX5_text 21 = .ok (.getfield 29, 3) := by decide +kernel
theorem dX5_text_24 : decode cX5_text 24 = .ok (.iload_n 1, 1) := by decide +kernel
theorem dX5_text_25 : decode cX5_text 25 = .ok (.aload_n 0, 1) := by decide +kernel
theorem dX5_text_26 : decode cX5_text 26 = .ok (.getfield 20, 3) := by decide +kernel
theorem dX5_text_29 : decode cX5_text 29 = .ok (.invokevirtual 65, 3) := by decide +kernel
theorem dX5_text_32 : decode cX5_text 32 = .ok (.iconst 0, 1) := by decide +kernel
theorem dX5_text_33 : decode cX5_text 33 = .ok (.istore_n 2, 1) := by decide +kernel
theorem dX5_text_34 : decode cX5_text 34 = .ok (.iload_n 2, 1) := by decide +kernel
theorem dX5_text_35 : decode cX5_text 35 = .ok (.iload_n 1, 1) := by decide +kernel
theorem dX5_text_36 : decode cX5_text 36 = .ok (.if_icmp .ge 31, 3) := by decide +kernel
theorem dX5_text_39 : decode cX5_text 39 = .ok (.aload_n 0, 1) := by decide +kernel
theorem dX5_text_40 : decode cX5_text 40 = .ok (.getfield 29, 3) := by decide +kernel
theorem dX5_text_43 : decode cX5_text 43 = .ok (.invokevirtual 69, 3) := by decide +kernel
theorem dX5_text_46 : decode cX5_text 46 = .ok (.ifCond .eq 21, 3) := by decide +kernel
theorem dX5_text_49 : decode cX5_text 49 = .ok (.aload_n 0, 1) := by decide +kernel
theorem dX5_text_50 : decode cX5_text 50 = .ok (.getfield 29, 3) := by decide +kernel
theorem dX5_text_53 : decode cX5_text 53 = .ok (.invokevirtual 73, 3) := by decide +kernel
theorem dX5_text_56 : decode cX5_text 56 = .ok (.ifCond .ne 5, 3) := by decide +kernel
theorem dX5_text_59 : decode cX5_text 59 = .ok (.iconst (-1), 1) := by decide +kernel
theorem dX5_text_60 : decode cX5_text 60 = .ok (.ireturn, 1) := by decide +kernel
theorem dX5_text_61 : decode cX5_text 61 = .ok (.iinc 2 1, 3) := by decide +kernel
theorem dX5_text_64 : decode cX5_text 64 = .ok (.goto (-30), 3) := by decide +kernel
theorem dX5_text_67 : decode cX5_text 67 = .ok (.aload_n 0, 1) := by decide +kernel
theorem dX5_text_68 : decode cX5_text 68 = .ok (.getfield 20, 3) := by decide +kernel
theorem dX5_text_71 : decode cX5_text 71 = .ok (.astore_n 2, 1) := by decide +kernel
theorem dX5_text_72 : decode cX5_text 72 = .ok (.aload_n 0, 1) := by decide +kernel
theorem dX5_text_73 : decode cX5_text 73 = .ok (.aload_n 0, 1) := by decide +kernel
theorem dX5_text_74 : decode cX5_text 74 = .ok (.getfield 38, 3) := by decide +kernel
theorem dX5_text_77 : decode cX5_text 77 = .ok (.getfield 42, 3) := by decide +kernel
theorem dX5_text_80 : decode cX5_text 80 = .ok (.putfield 20, 3) := by decide +kernel
theorem dX5_text_83 : decode cX5_text 83 = .ok (.aload_n 0, 1) := by decide +kernel
theorem dX5_text_84 : decode cX5_text 84 = .ok (.getfield 38, 3) := by decide +kernel
theorem dX5_text_87 : decode cX5_text 87 = .ok (.aload_n 2, 1) := by decide +kernel
theorem dX5_text_88 : decode cX5_text 88 = .ok (.invokevirtual 76, 3) := by decide +kernel
theorem dX5_text_91 : decode cX5_text 91 = .ok (.aload_n 0, 1) := by decide +kernel
theorem dX5_text_92 : decode cX5_text 92 = .ok (.iconst 0, 1) := by decide +kernel
theorem dX5_text_93 : decode cX5_text 93 = .ok (.putfield 58, 3) := by decide +kernel
theorem dX5_text_96 : decode cX5_text 96 = .ok (.aload_n 2, 1) := by decide +kernel
theorem dX5_text_97 : decode cX5_text 97 = .ok (.getfield 78, 3) := by decide +kernel
theorem dX5_text_100 : decode cX5_text 100 = .ok (.ireturn, 1) := by decide +kernel
def Fh_text_67 (d : Mem) : Option (Int32 × Mem) :=
  gref (d 0 0 2) fun u1 =>
  gref (d 0 0 4) fun u2 =>
  gref (d u2 10 0) fun u3 =>
  bnd (wrM d 0 0 2 (nI u3)) fun d4 =>
  gref (d4 0 0 4) fun u5 =>
  bd (lft d4 u5 (Wo_begin d4 u1 (d4 u5))) fun r6 d7 =>
  bnd (wrM d7 0 0 9 (0 : Int32)) fun d8 =>
  some ((d8 u1 4 11), d8)
def Fh_text_34 : Nat → Int32 → Int32 → Mem → Option (Int32 × Mem)
  | 0, _, _, _ => none
  | n + 1, v1, v2, d =>
    if v1 ≤ v2 then
      (Fh_text_67 d)
    else
      (bd (Re_hasMore d) fun r9 d10 =>
      if r9 = 0 then
        (Fh_text_67 d10)
      else
        (bd (Re_readLine d10) fun r11 d12 =>
        if r11 = 0 then
          (some ((-1 : Int32), d12))
        else
          (bnd (v2 + (1 : Int32)) fun v2_13 =>
          Fh_text_34 n v1 v2_13 d12)))
def Fh_text (d : Mem) (a1 : Int32) : Option (Int32 × Mem) :=
  if a1 < 0 then
    (some ((-2 : Int32), d))
  else
    (if a1 ≤ (d 0 0 1) then
      (bnd (wrM d 0 0 1 (0 : Int32)) fun d14 =>
      gref (d14 0 0 2) fun u15 =>
      bd (Re_begin u15 d14 a1) fun r16 d17 =>
      bnd (0 : Int32) fun v2_18 =>
      Fh_text_34 FU a1 v2_18 d17)
    else
      (some ((-2 : Int32), d)))
theorem y_X5_text : YV yX5_text cX5_text 3 (some .int) 1 := ⟨q471, q472, q473, q143, by decide +kernel, by decide +kernel, by decide +kernel, by decide +kernel⟩
theorem r_Fh_text_67 {C : Cxt} {G : Geo} (hC : Cx C cX5_text 3 "FrameHeirs" (some .int) rm_X5_text G) (hcl : GCl G) (hX : LXx G) (hT : LSt G) (d : Mem) : Rz C 3 G gm (poM avI gm) 67 [(0, .inr (0, 0))] [] d (Fh_text_67 d) := by
  unfold Fh_text_67
  refine z_aload_n (pc := 67) hC 0 rfl 0 rfl dX5_text_67 ?_
  refine zg_getS (pc := 68) hC hcl (hX 0 rfl) f_0_2 q433 dX5_text_68 (fun u1 hu1 gu1 => ?_)
  refine z_astore_n (pc := 71) (ls1 := [(2, .inr (u1, 4)), (0, .inr (0, 0))]) hC 2 rfl (by decide) rfl dX5_text_71 ?_
  refine z_aload_n (pc := 72) hC 0 rfl 1 rfl dX5_text_72 ?_
  refine z_aload_n (pc := 73) hC 0 rfl 1 rfl dX5_text_73 ?_
  refine zg_getW (pc := 74) hC hcl (hX 0 rfl) f_0_4 q435 dX5_text_74 (fun u2 hu2 gu2 => ?_)
  refine zg_getS (pc := 77) hC hcl (hu2 10 rfl) f_10_0 q376 dX5_text_77 (fun u3 hu3 gu3 => ?_)
  refine zg_putr (pc := 80) (cn := "FrameHeirs$Script") hC (hX 0 rfl) (hu3 4 rfl) f_0_2 q433 (by decide +kernel) dX5_text_80 (fun d4 => ?_)
  refine z_aload_n (pc := 83) hC 0 rfl 1 rfl dX5_text_83 ?_
  refine zg_getW (pc := 84) hC hcl (hX 0 rfl) f_0_4 q435 dX5_text_84 (fun u5 hu5 gu5 => ?_)
  refine z_aload_n (pc := 87) hC 2 rfl 0 rfl dX5_text_87 ?_
  refine z_cvV (pc := 88) (st := []) hC y_X4_begin q575 [.inr (u1, 4)] rfl (hu5 10 rfl) rfl rfl (lft_m (c_X4_begin hC.2.2.2.2.2.2.1 hu5 gu5 hcl hu1 gu1)) rfl ⟨rfl, rfl, (Nat.le_of_ble_eq_true rfl), (Nat.le_of_ble_eq_true rfl)⟩ (Nat.le_of_ble_eq_true rfl) dX5_text_88 (fun r6 d7 => ?_)
  refine z_aload_n (pc := 91) hC 0 rfl 1 rfl dX5_text_91 ?_
  refine z_iconst (pc := 92) hC (0 : Int32) rfl dX5_text_92 ?_
  refine zg_puti (pc := 93) hC (hX 0 rfl) f_0_9 q440 dX5_text_93 (fun d8 => ?_)
  refine z_aload_n (pc := 96) hC 2 rfl 0 rfl dX5_text_96 ?_
  refine zg_geti (pc := 97) hC (hu1 4 rfl) f_4_11 q208 dX5_text_97 ?_
  exact z_iret (pc := 100) hC rfl dX5_text_100
theorem r_Fh_text_34 {C : Cxt} {G : Geo} (hC : Cx C cX5_text 3 "FrameHeirs" (some .int) rm_X5_text G) (hcl : GCl G) (hX : LXx G) (hT : LSt G) : ∀ (n : Nat) (v1 : Int32) (v2 : Int32) (d : Mem), Rz C 3 G gm (poM avI gm) 34 [(0, .inr (0, 0)), (1, .inl (.int v1)), (2, .inl (.int v2))] [] d (Fh_text_34 n v1 v2 d) := by
  intro n
  induction n with
  | zero => intros; exact z_none
  | succ n ih =>
    intro v1 v2 d
    rw [Fh_text_34]
    refine z_iload_n (pc := 34) hC 2 rfl 2 rfl dX5_text_34 ?_
    refine z_iload_n (pc := 35) hC 1 rfl 1 rfl dX5_text_35 ?_
    refine z_icmp_ge (pc := 36) hC 67 rfl dX5_text_36 ?_ ?_
    · exact z_sub [0] rfl (r_Fh_text_67 hC hcl hX hT d)
    · refine z_aload_n (pc := 39) hC 0 rfl 0 rfl dX5_text_39 ?_
      refine z_getc (pc := 40) hC (hX 0 rfl) f_0_3 q434 dX5_text_40 ?_
      refine z_ciV (pc := 43) (st := []) hC y_X2_hasMore q485 [] rfl (hX 2 rfl) rfl rfl (c_X2_hasMore hC.2.2.2.2.2.2.1 hcl hX hT) rfl ⟨rfl, rfl, (Nat.le_of_ble_eq_true rfl), (Nat.le_of_ble_eq_true rfl)⟩ (Nat.le_of_ble_eq_true rfl) dX5_text_43 (fun r9 d10 => ?_)
      refine z_if_eq (pc := 46) hC 67 rfl dX5_text_46 ?_ ?_
      · exact z_sub [0] rfl (r_Fh_text_67 hC hcl hX hT d10)
      · refine z_aload_n (pc := 49) hC 0 rfl 0 rfl dX5_text_49 ?_
        refine z_getc (pc := 50) hC (hX 0 rfl) f_0_3 q434 dX5_text_50 ?_
        refine z_ciV (pc := 53) (st := []) hC y_X2_readLine q513 [] rfl (hX 2 rfl) rfl rfl (c_X2_readLine hC.2.2.2.2.2.2.1 hcl hX hT) rfl ⟨rfl, rfl, (Nat.le_of_ble_eq_true rfl), (Nat.le_of_ble_eq_true rfl)⟩ (Nat.le_of_ble_eq_true rfl) dX5_text_53 (fun r11 d12 => ?_)
        refine z_if_ne (pc := 56) hC 61 rfl dX5_text_56 ?_ ?_
        · refine z_iinc (pc := 61) (ls1 := fun v => [(2, .inl (.int v)), (0, .inr (0, 0)), (1, .inl (.int v1))]) hC 2 2 (by decide) (1 : Int32) rfl rfl (fun v => rfl) dX5_text_61 (fun v2_13 => ?_)
          refine z_goto (pc := 64) hC 34 rfl dX5_text_64 ?_
          exact z_sub [1, 2, 0] rfl (ih v1 v2_13 d12)
        · refine z_iconst (pc := 59) hC (-1 : Int32) rfl dX5_text_59 ?_
          exact z_iret (pc := 60) hC rfl dX5_text_60
theorem r_Fh_text {C : Cxt} {G : Geo} (hC : Cx C cX5_text 3 "FrameHeirs" (some .int) rm_X5_text G) (hcl : GCl G) (hX : LXx G) (hT : LSt G) (d : Mem) (a1 : Int32) : Rz C 3 G gm (poM avI gm) 0 [(0, .inr (0, 0)), (1, .inl (.int a1))] [] d (Fh_text d a1) := by
  unfold Fh_text
  refine z_iload_n (pc := 0) hC 1 rfl 1 rfl dX5_text_0 ?_
  refine z_if_lt (pc := 1) hC 12 rfl dX5_text_1 ?_ ?_
  · refine z_bipush (pc := 12) hC (-2 : Int32) rfl dX5_text_12 ?_
    exact z_iret (pc := 14) hC rfl dX5_text_14
  · refine z_iload_n (pc := 4) hC 1 rfl 1 rfl dX5_text_4 ?_
    refine z_aload_n (pc := 5) hC 0 rfl 0 rfl dX5_text_5 ?_
    refine zg_geti (pc := 6) hC (hX 0 rfl) f_0_1 q432 dX5_text_6 ?_
    refine z_icmp_le (pc := 9) hC 15 rfl dX5_text_9 ?_ ?_
    · refine z_aload_n (pc := 15) hC 0 rfl 0 rfl dX5_text_15 ?_
      refine z_iconst (pc := 16) hC (0 : Int32) rfl dX5_text_16 ?_
      refine zg_puti (pc := 17) hC (hX 0 rfl) f_0_1 q432 dX5_text_17 (fun d14 => ?_)
      refine z_aload_n (pc := 20) hC 0 rfl 0 rfl dX5_text_20 ?_
      refine z_getc (pc := 21) hC (hX 0 rfl) f_0_3 q434 dX5_text_21 ?_
      refine z_iload_n (pc := 24) hC 1 rfl 1 rfl dX5_text_24 ?_
      refine z_aload_n (pc := 25) hC 0 rfl 0 rfl dX5_text_25 ?_
      refine zg_getS (pc := 26) hC hcl (hX 0 rfl) f_0_2 q433 dX5_text_26 (fun u15 hu15 gu15 => ?_)
      refine z_cvV (pc := 29) (st := []) hC y_X2_begin q474 [.inl (.int a1), .inr (u15, 4)] rfl (hX 2 rfl) rfl rfl (c_X2_begin hC.2.2.2.2.2.2.1 hcl hX hT hu15 gu15) rfl ⟨rfl, rfl, (Nat.le_of_ble_eq_true rfl), (Nat.le_of_ble_eq_true rfl)⟩ (Nat.le_of_ble_eq_true rfl) dX5_text_29 (fun r16 d17 => ?_)
      refine z_iconst (pc := 32) hC (0 : Int32) rfl dX5_text_32 ?_
      refine z_istore_n (pc := 33) (ls1 := fun v => [(2, .inl (.int v)), (0, .inr (0, 0)), (1, .inl (.int a1))]) hC 2 rfl (by decide) (fun v => rfl) dX5_text_33 (fun v2_18 => ?_)
      exact z_sub [1, 2, 0] rfl (r_Fh_text_34 hC hcl hX hT FU a1 v2_18 d17)
    · refine z_bipush (pc := 12) hC (-2 : Int32) rfl dX5_text_12 ?_
      exact z_iret (pc := 14) hC rfl dX5_text_14
theorem c_X5_text {G : Geo} (hG : GOk G) (hcl : GCl G) (hX : LXx G) (hT : LSt G) {d : Mem} {a1 : Int32} (l : Launch) (r : Int32) (d1 : Mem) (h : Fh_text d a1 = some (r, d1)) : Mt l yX5_text cX5_text 3 (some .int) rm_X5_text G [.inr (0, 0), .inl (.int a1)] (gm d) (avI r) (gm d1) :=
  mt_of (mem := gm) (po := poM avI gm) (x0 := d) (t := (r, d1)) rfl hG [.inr (0, 0), .inl (.int a1)] (Nat.le_of_ble_eq_true rfl) rfl (fun C hC => r_Fh_text hC hcl hX hT d a1) h
-- FrameHeirs.fault(I)I
abbrev rm_X5_fault : Room := { frames := 0, cells := 0, slots := 0, locals := 0 }
theorem dX5_fault_0 : decode cX5_fault 0 = .ok (.iload_n 1, 1) := by decide +kernel
theorem dX5_fault_1 : decode cX5_fault 1 = .ok (.ifCond .ne 11, 3) := by decide +kernel
theorem dX5_fault_4 : decode cX5_fault 4 = .ok (.aload_n 0, 1) := by decide +kernel
theorem dX5_fault_5 : decode cX5_fault 5 = .ok (.getfield 29, 3) := by decide +kernel
theorem dX5_fault_8 : decode cX5_fault 8 = .ok (.getfield 81, 3) := by decide +kernel
theorem dX5_fault_11 : decode cX5_fault 11 = .ok (.ireturn, 1) := by decide +kernel
theorem dX5_fault_12 : decode cX5_fault 12 = .ok (.iload_n 1, 1) := by decide +kernel
theorem dX5_fault_13 : decode cX5_fault 13 = .ok (.iconst 1, 1) := by decide +kernel
theorem dX5_fault_14 : decode cX5_fault 14 = .ok (.if_icmp .ne 13, 3) := by decide +kernel
theorem dX5_fault_17 : decode cX5_fault 17 = .ok (.aload_n 0, 1) := by decide +kernel
theorem dX5_fault_18 : decode cX5_fault 18 = .ok (.getfield 29, 3) := by decide +kernel
theorem dX5_fault_21 : decode cX5_fault 21 = .ok (.getfield 84, 3) := by decide +kernel
theorem dX5_fault_24 : decode cX5_fault 24 = .ok (.goto 4, 3) := by decide +kernel
theorem dX5_fault_27 : decode cX5_fault 27 = .ok (.iconst (-1), 1) := by decide +kernel
theorem dX5_fault_28 : decode cX5_fault 28 = .ok (.ireturn, 1) := by decide +kernel
def Fh_fault (d : Mem) (a1 : Int32) : Option Int32 :=
  if a1 = 0 then
    (some (d 0 2 0))
  else
    (if a1 = (1 : Int32) then
      (some (d 0 2 1))
    else
      (some (-1 : Int32)))
theorem y_X5_fault : YV yX5_fault cX5_fault 2 (some .int) 1 := ⟨q600, q601, q602, q143, by decide +kernel, by decide +kernel, by decide +kernel, by decide +kernel⟩
theorem r_Fh_fault {C : Cxt} {G : Geo} (hC : Cx C cX5_fault 2 "FrameHeirs" (some .int) rm_X5_fault G) (hcl : GCl G) (hX : LXx G) (hT : LSt G) (d : Mem) (a1 : Int32) : Rz C 2 G gm (poP avI (gm d)) 0 [(0, .inr (0, 0)), (1, .inl (.int a1))] [] d (Fh_fault d a1) := by
  unfold Fh_fault
  refine z_iload_n (pc := 0) hC 1 rfl 1 rfl dX5_fault_0 ?_
  refine z_if_ne (pc := 1) hC 12 rfl dX5_fault_1 ?_ ?_
  · refine z_iload_n (pc := 12) hC 1 rfl 1 rfl dX5_fault_12 ?_
    refine z_iconst (pc := 13) hC (1 : Int32) rfl dX5_fault_13 ?_
    refine z_icmp_ne (pc := 14) hC 27 rfl dX5_fault_14 ?_ ?_
    · refine z_iconst (pc := 27) hC (-1 : Int32) rfl dX5_fault_27 ?_
      exact z_iret (pc := 28) hC rfl dX5_fault_28
    · refine z_aload_n (pc := 17) hC 0 rfl 0 rfl dX5_fault_17 ?_
      refine z_getc (pc := 18) hC (hX 0 rfl) f_0_3 q434 dX5_fault_18 ?_
      refine zg_geti (pc := 21) hC (hX 2 rfl) f_2_1 q245 dX5_fault_21 ?_
      refine z_goto (pc := 24) hC 28 rfl dX5_fault_24 ?_
      exact z_iret (pc := 28) hC rfl dX5_fault_28
  · refine z_aload_n (pc := 4) hC 0 rfl 0 rfl dX5_fault_4 ?_
    refine z_getc (pc := 5) hC (hX 0 rfl) f_0_3 q434 dX5_fault_5 ?_
    refine zg_geti (pc := 8) hC (hX 2 rfl) f_2_0 q243 dX5_fault_8 ?_
    exact z_iret (pc := 11) hC rfl dX5_fault_11
theorem c_X5_fault {G : Geo} (hG : GOk G) (hcl : GCl G) (hX : LXx G) (hT : LSt G) {d : Mem} {a1 : Int32} (l : Launch) (r : Int32) (h : Fh_fault d a1 = some r) : Mt l yX5_fault cX5_fault 2 (some .int) rm_X5_fault G [.inr (0, 0), .inl (.int a1)] (gm d) (avI r) (gm d) :=
  mt_of (mem := gm) (po := poP avI (gm d)) (x0 := d) (t := r) rfl hG [.inr (0, 0), .inl (.int a1)] (Nat.le_of_ble_eq_true rfl) rfl (fun C hC => r_Fh_fault hC hcl hX hT d a1) h
-- FrameHeirs.named(I)I
abbrev rm_X5_named : Room := { frames := 1, cells := 0, slots := 0, locals := 22 }
theorem dX5_named_0 : decode cX5_named 0 = .ok (.aload_n 0, 1) := by decide +kernel
theorem dX5_named_1 : decode cX5_named 1 = .ok (.getfield 38, 3) := by decide +kernel
theorem dX5_named_4 : decode cX5_named 4 = .ok (.getfield 42, 3) := by decide +kernel
theorem dX5_named_7 : decode cX5_named 7 = .ok (.iload_n 1, 1) := by decide +kernel
theorem dX5_named_8 : decode cX5_named 8 = .ok (.invokevirtual 87, 3) := by decide +kernel
theorem dX5_named_11 : decode cX5_named 11 = .ok (.ireturn, 1) := by decide +kernel
def Fh_named (d : Mem) (a1 : Int32) : Option Int32 :=
  gref (d 0 0 4) fun u1 =>
  gref (d u1 10 0) fun u2 =>
  bp (Sc_spaceNamed (d u2) a1) fun r3 =>
  some r3
theorem y_X5_named : YV yX5_named cX5_named 2 (some .int) 1 := ⟨q604, q605, q606, q143, by decide +kernel, by decide +kernel, by decide +kernel, by decide +kernel⟩
theorem r_Fh_named {C : Cxt} {G : Geo} (hC : Cx C cX5_named 2 "FrameHeirs" (some .int) rm_X5_named G) (hcl : GCl G) (hX : LXx G) (hT : LSt G) (d : Mem) (a1 : Int32) : Rz C 2 G gm (poP avI (gm d)) 0 [(0, .inr (0, 0)), (1, .inl (.int a1))] [] d (Fh_named d a1) := by
  unfold Fh_named
  refine z_aload_n (pc := 0) hC 0 rfl 0 rfl dX5_named_0 ?_
  refine zg_getW (pc := 1) hC hcl (hX 0 rfl) f_0_4 q435 dX5_named_1 (fun u1 hu1 gu1 => ?_)
  refine zg_getS (pc := 4) hC hcl (hu1 10 rfl) f_10_0 q376 dX5_named_4 (fun u2 hu2 gu2 => ?_)
  refine z_iload_n (pc := 7) hC 1 rfl 1 rfl dX5_named_7 ?_
  refine z_piV (pc := 8) (st := []) hC y_X3_spaceNamed q607 [.inl (.int a1)] rfl (hu2 4 rfl) rfl rfl (lft_p (c_X3_spaceNamed hC.2.2.2.2.2.2.1 hu2)) rfl ⟨rfl, rfl, (Nat.le_of_ble_eq_true rfl), (Nat.le_of_ble_eq_true rfl)⟩ (Nat.le_of_ble_eq_true rfl) dX5_named_8 (fun r3 => ?_)
  exact z_iret (pc := 11) hC rfl dX5_named_11
theorem c_X5_named {G : Geo} (hG : GOk G) (hcl : GCl G) (hX : LXx G) (hT : LSt G) {d : Mem} {a1 : Int32} (l : Launch) (r : Int32) (h : Fh_named d a1 = some r) : Mt l yX5_named cX5_named 2 (some .int) rm_X5_named G [.inr (0, 0), .inl (.int a1)] (gm d) (avI r) (gm d) :=
  mt_of (mem := gm) (po := poP avI (gm d)) (x0 := d) (t := r) rfl hG [.inr (0, 0), .inl (.int a1)] (Nat.le_of_ble_eq_true rfl) rfl (fun C hC => r_Fh_named hC hcl hX hT d a1) h
-- FrameHeirs.remember()V
abbrev rm_X5_remember : Room := { frames := 3, cells := 0, slots := 0, locals := 82 }
theorem dX5_remember_0 : decode cX5_remember 0 = .ok (.aload_n 0, 1) := by decide +kernel
theorem dX5_remember_1 : decode cX5_remember 1 = .ok (.getfield 45, 3) := by decide +kernel
theorem dX5_remember_4 : decode cX5_remember 4 = .ok (.aload_n 0, 1) := by decide +kernel
theorem dX5_remember_5 : decode cX5_remember 5 = .ok (.getfield 38, 3) := by decide +kernel
theorem dX5_remember_8 : decode cX5_remember 8 = .ok (.invokevirtual 251, 3) := by decide +kernel
theorem dX5_remember_11 : decode cX5_remember 11 = .ok (.return_, 1) := by decide +kernel
def Fh_remember (d : Mem) : Option (Unit × Mem) :=
  gref (d 0 0 5) fun u1 =>
  gref (d 0 0 4) fun u2 =>
  bd (Wo_copyFrom u1 u2 d) fun r3 d4 =>
  some ((), d4)
theorem y_X5_remember : YV yX5_remember cX5_remember 1 none 0 := ⟨q614, q14, q615, q143, by decide +kernel, by decide +kernel, by decide +kernel, by decide +kernel⟩
theorem r_Fh_remember {C : Cxt} {G : Geo} (hC : Cx C cX5_remember 1 "FrameHeirs" none rm_X5_remember G) (hcl : GCl G) (hX : LXx G) (hT : LSt G) (d : Mem) : Rz C 1 G gm (poM avV gm) 0 [(0, .inr (0, 0))] [] d (Fh_remember d) := by
  unfold Fh_remember
  refine z_aload_n (pc := 0) hC 0 rfl 0 rfl dX5_remember_0 ?_
  refine zg_getW (pc := 1) hC hcl (hX 0 rfl) f_0_5 q436 dX5_remember_1 (fun u1 hu1 gu1 => ?_)
  refine z_aload_n (pc := 4) hC 0 rfl 0 rfl dX5_remember_4 ?_
  refine zg_getW (pc := 5) hC hcl (hX 0 rfl) f_0_4 q435 dX5_remember_5 (fun u2 hu2 gu2 => ?_)
  refine z_cvV (pc := 8) (st := []) hC y_X4_copyFrom q616 [.inr (u2, 10)] rfl (hu1 10 rfl) rfl rfl (c_X4_copyFrom hC.2.2.2.2.2.2.1 hcl hX hT hu1 gu1 hu2 gu2) rfl ⟨rfl, rfl, (Nat.le_of_ble_eq_true rfl), (Nat.le_of_ble_eq_true rfl)⟩ (Nat.le_of_ble_eq_true rfl) dX5_remember_8 (fun r3 d4 => ?_)
  exact z_vret (pc := 11) hC rfl dX5_remember_11
theorem c_X5_remember {G : Geo} (hG : GOk G) (hcl : GCl G) (hX : LXx G) (hT : LSt G) {d : Mem} (l : Launch) (r : Unit) (d1 : Mem) (h : Fh_remember d = some (r, d1)) : Mt l yX5_remember cX5_remember 1 none rm_X5_remember G [.inr (0, 0)] (gm d) (avV r) (gm d1) :=
  mt_of (mem := gm) (po := poM avV gm) (x0 := d) (t := (r, d1)) rfl hG [.inr (0, 0)] (Nat.le_of_ble_eq_true rfl) rfl (fun C hC => r_Fh_remember hC hcl hX hT d) h
-- FrameHeirs.answer(I)I
abbrev rm_X5_answer : Room := { frames := 0, cells := 0, slots := 0, locals := 0 }
theorem dX5_answer_0 : decode cX5_answer 0 = .ok (.iload_n 1, 1) := by decide +kernel
theorem dX5_answer_1 : decode cX5_answer 1 = .ok (.ifCond .lt 23, 3) := by decide +kernel
theorem dX5_answer_4 : decode cX5_answer 4 = .ok (.iload_n 1, 1) := by decide +kernel
theorem dX5_answer_5 : decode cX5_answer 5 = .ok (.aload_n 0, 1) := by decide +kernel
theorem dX5_answer_6 : decode cX5_answer 6 = .ok (.getfield 38, 3) := by decide +kernel
theorem dX5_answer_9 : decode cX5_answer 9 = .ok (.getfield 42, 3) := by decide +kernel
theorem dX5_answer_12 : decode cX5_answer 12 = .ok (.getfield 144, 3) := by decide +kernel
theorem dX5_answer_15 : decode cX5_answer 15 = .ok (.if_icmp .ge 9, 3) := by decide +kernel
theorem dX5_answer_18 : decode cX5_answer 18 = .ok (.iload_n 1, 1) := by decide +kernel
theorem dX5_answer_19 : decode cX5_answer 19 = .ok (.bipush 24, 2) := by decide +kernel
theorem dX5_answer_21 : decode cX5_answer 21 = .ok (.if_icmp .lt 6, 3) := by decide +kernel
theorem dX5_answer_24 : decode cX5_answer 24 = .ok (.bipush (-10), 2) := by decide +kernel
theorem dX5_answer_26 : decode cX5_answer 26 = .ok (.ireturn, 1) := by decide +kernel
theorem dX5_answer_27 : decode cX5_answer 27 = .ok (.iload_n 1, 1) := by decide +kernel
theorem dX5_answer_28 : decode cX5_answer 28 = .ok (.aload_n 0, 1) := by decide +kernel
theorem dX5_answer_29 : decode cX5_answer 29 = .ok (.getfield 38, 3) := by decide +kernel
theorem dX5_answer_32 : decode cX5_answer 32 = .ok (.getfield 141, 3) := by decide +kernel
theorem dX5_answer_35 : decode cX5_answer 35 = .ok (.if_icmp .ge 15, 3) := by decide +kernel
theorem dX5_answer_38 : decode cX5_answer 38 = .ok (.aload_n 0, 1) := by decide +kernel
theorem dX5_answer_39 : decode cX5_answer 39 = .ok (.getfield 38, 3) := by decide +kernel
theorem dX5_answer_42 : decode cX5_answer 42 = .ok (.getfield 153, 3) := by decide +kernel
theorem dX5_answer_45 : decode cX5_answer 45 = .ok (.iload_n 1, 1) := by decide +kernel
theorem dX5_answer_46 : decode cX5_answer 46 = .ok (.iaload, 1) := by decide +kernel
theorem dX5_answer_47 : decode cX5_answer 47 = .ok (.goto 5, 3) := by decide +kernel
theorem dX5_answer_50 : decode cX5_answer 50 = .ok (.bipush (-9), 2) := by decide +kernel
theorem dX5_answer_52 : decode cX5_answer 52 = .ok (.ireturn, 1) := by decide +kernel
def Fh_answer (d : Mem) (a1 : Int32) : Option Int32 :=
  if a1 < 0 then
    (some (-10 : Int32))
  else
    (gref (d 0 0 4) fun u1 =>
    gref (d u1 10 0) fun u2 =>
    if (d u2 4 10) ≤ a1 then
      (some (-10 : Int32))
    else
      (if a1 < (24 : Int32) then
        (gref (d 0 0 4) fun u3 =>
        if (d u3 10 11) ≤ a1 then
          (some (-9 : Int32))
        else
          (gref (d 0 0 4) fun u4 =>
          if inb a1 24 then
          some (d u4 16 (ix a1))
          else none))
      else
        (some (-10 : Int32))))
theorem y_X5_answer : YV yX5_answer cX5_answer 2 (some .int) 1 := ⟨q914, q915, q916, q143, by decide +kernel, by decide +kernel, by decide +kernel, by decide +kernel⟩
theorem r_Fh_answer {C : Cxt} {G : Geo} (hC : Cx C cX5_answer 2 "FrameHeirs" (some .int) rm_X5_answer G) (hcl : GCl G) (hX : LXx G) (hT : LSt G) (d : Mem) (a1 : Int32) : Rz C 2 G gm (poP avI (gm d)) 0 [(0, .inr (0, 0)), (1, .inl (.int a1))] [] d (Fh_answer d a1) := by
  unfold Fh_answer
  refine z_iload_n (pc := 0) hC 1 rfl 1 rfl dX5_answer_0 ?_
  refine z_if_lt (pc := 1) hC 24 rfl dX5_answer_1 ?_ ?_
  · refine z_bipush (pc := 24) hC (-10 : Int32) rfl dX5_answer_24 ?_
    exact z_iret (pc := 26) hC rfl dX5_answer_26
  · refine z_iload_n (pc := 4) hC 1 rfl 1 rfl dX5_answer_4 ?_
    refine z_aload_n (pc := 5) hC 0 rfl 0 rfl dX5_answer_5 ?_
    refine zg_getW (pc := 6) hC hcl (hX 0 rfl) f_0_4 q435 dX5_answer_6 (fun u1 hu1 gu1 => ?_)
    refine zg_getS (pc := 9) hC hcl (hu1 10 rfl) f_10_0 q376 dX5_answer_9 (fun u2 hu2 gu2 => ?_)
    refine zg_geti (pc := 12) hC (hu2 4 rfl) f_4_10 q205 dX5_answer_12 ?_
    refine z_icmp_ge (pc := 15) hC 24 rfl dX5_answer_15 ?_ ?_
    · refine z_bipush (pc := 24) hC (-10 : Int32) rfl dX5_answer_24 ?_
      exact z_iret (pc := 26) hC rfl dX5_answer_26
    · refine z_iload_n (pc := 18) hC 1 rfl 1 rfl dX5_answer_18 ?_
      refine z_bipush (pc := 19) hC (24 : Int32) rfl dX5_answer_19 ?_
      refine z_icmp_lt (pc := 21) hC 27 rfl dX5_answer_21 ?_ ?_
      · refine z_iload_n (pc := 27) hC 1 rfl 1 rfl dX5_answer_27 ?_
        refine z_aload_n (pc := 28) hC 0 rfl 0 rfl dX5_answer_28 ?_
        refine zg_getW (pc := 29) hC hcl (hX 0 rfl) f_0_4 q435 dX5_answer_29 (fun u3 hu3 gu3 => ?_)
        refine zg_geti (pc := 32) hC (hu3 10 rfl) f_10_11 q392 dX5_answer_32 ?_
        refine z_icmp_ge (pc := 35) hC 50 rfl dX5_answer_35 ?_ ?_
        · refine z_bipush (pc := 50) hC (-9 : Int32) rfl dX5_answer_50 ?_
          exact z_iret (pc := 52) hC rfl dX5_answer_52
        · refine z_aload_n (pc := 38) hC 0 rfl 0 rfl dX5_answer_38 ?_
          refine zg_getW (pc := 39) hC hcl (hX 0 rfl) f_0_4 q435 dX5_answer_39 (fun u4 hu4 gu4 => ?_)
          refine z_getc (pc := 42) hC (hu4 10 rfl) f_10_10 q390 dX5_answer_42 ?_
          refine z_iload_n (pc := 45) hC 1 rfl 1 rfl dX5_answer_45 ?_
          refine zg_iald (pc := 46) hC (hu4 16 rfl) rfl dX5_answer_46 ?_
          refine z_goto (pc := 47) hC 52 rfl dX5_answer_47 ?_
          exact z_iret (pc := 52) hC rfl dX5_answer_52
      · refine z_bipush (pc := 24) hC (-10 : Int32) rfl dX5_answer_24 ?_
        exact z_iret (pc := 26) hC rfl dX5_answer_26
theorem c_X5_answer {G : Geo} (hG : GOk G) (hcl : GCl G) (hX : LXx G) (hT : LSt G) {d : Mem} {a1 : Int32} (l : Launch) (r : Int32) (h : Fh_answer d a1 = some r) : Mt l yX5_answer cX5_answer 2 (some .int) rm_X5_answer G [.inr (0, 0), .inl (.int a1)] (gm d) (avI r) (gm d) :=
  mt_of (mem := gm) (po := poP avI (gm d)) (x0 := d) (t := r) rfl hG [.inr (0, 0), .inl (.int a1)] (Nat.le_of_ble_eq_true rfl) rfl (fun C hC => r_Fh_answer hC hcl hX hT d a1) h
-- FrameHeirs.above(III)I
abbrev rm_X5_above : Room := { frames := 2, cells := 0, slots := 0, locals := 48 }
theorem dX5_above_0 : decode cX5_above 0 = .ok (.aload_n 0, 1) := by decide +kernel
theorem dX5_above_1 : decode cX5_above 1 = .ok (.getfield 38, 3) := by decide +kernel
theorem dX5_above_4 : decode cX5_above 4 = .ok (.iload_n 1, 1) := by decide +kernel
theorem dX5_above_5 : decode cX5_above 5 = .ok (.iload_n 2, 1) := by decide +kernel
theorem dX5_above_6 : decode cX5_above 6 = .ok (.invokevirtual 156, 3) := by decide +kernel
theorem dX5_above_9 : decode cX5_above 9 = .ok (.ifCond .eq 8, 3) := by decide +kernel
theorem dX5_above_12 : decode cX5_above 12 = .ok (.iload_n 3, 1) := by decide +kernel
theorem dX5_above_13 : decode cX5_above 13 = .ok (.iconst 1, 1) := by decide +kernel
theorem dX5_above_14 : decode cX5_above 14 = .ok (.if_icmp .ge 5, 3) := by decide +kernel
theorem dX5_above_17 : decode cX5_above 17 = .ok (.iconst (-1), 1) := by decide +kernel
theorem dX5_above_18 : decode cX5_above 18 = .ok (.ireturn, 1) := by decide +kernel
theorem dX5_above_19 : decode cX5_above 19 = .ok (.aload_n 0, 1) := by decide +kernel
theorem dX5_above_20 : decode cX5_above 20 = .ok (.getfield 38, 3) := by decide +kernel
theorem dX5_above_23 : decode cX5_above 23 = .ok (.getfield 123, 3) := by decide +kernel
theorem dX5_above_26 : decode cX5_above 26 = .ok (.iload_n 1, 1) := by decide +kernel
theorem dX5_above_27 : decode cX5_above 27 = .ok (.iload_n 2, 1) := by decide +kernel
theorem dX5_above_28 : decode cX5_above 28 = .ok (.iload_n 3, 1) := by decide +kernel
theorem dX5_above_29 : decode cX5_above 29 = .ok (.invokestatic 182, 3) := by decide +kernel
theorem dX5_above_32 : decode cX5_above 32 = .ok (.ireturn, 1) := by decide +kernel
def Fh_above (d : Mem) (a1 : Int32) (a2 : Int32) (a3 : Int32) : Option Int32 :=
  gref (d 0 0 4) fun u1 =>
  bp (Wo_isPlace d (d u1) a1 a2) fun r2 =>
  if r2 = 0 then
    (some (-1 : Int32))
  else
    (if (1 : Int32) ≤ a3 then
      (gref (d 0 0 4) fun u3 =>
      bp (Qu_placeAbove (d u3) a1 a2 a3) fun r4 =>
      some r4)
    else
      (some (-1 : Int32)))
theorem y_X5_above : YV yX5_above cX5_above 4 (some .int) 3 := ⟨q918, q919, q920, q143, by decide +kernel, by decide +kernel, by decide +kernel, by decide +kernel⟩
theorem r_Fh_above {C : Cxt} {G : Geo} (hC : Cx C cX5_above 4 "FrameHeirs" (some .int) rm_X5_above G) (hcl : GCl G) (hX : LXx G) (hT : LSt G) (d : Mem) (a1 : Int32) (a2 : Int32) (a3 : Int32) : Rz C 4 G gm (poP avI (gm d)) 0 [(0, .inr (0, 0)), (1, .inl (.int a1)), (2, .inl (.int a2)), (3, .inl (.int a3))] [] d (Fh_above d a1 a2 a3) := by
  unfold Fh_above
  refine z_aload_n (pc := 0) hC 0 rfl 0 rfl dX5_above_0 ?_
  refine zg_getW (pc := 1) hC hcl (hX 0 rfl) f_0_4 q435 dX5_above_1 (fun u1 hu1 gu1 => ?_)
  refine z_iload_n (pc := 4) hC 1 rfl 1 rfl dX5_above_4 ?_
  refine z_iload_n (pc := 5) hC 2 rfl 2 rfl dX5_above_5 ?_
  refine z_piV (pc := 6) (st := []) hC y_X4_isPlace q921 [.inl (.int a1), .inl (.int a2)] rfl (hu1 10 rfl) rfl rfl (lft_p (c_X4_isPlace hC.2.2.2.2.2.2.1 hu1 gu1 hcl)) rfl ⟨rfl, rfl, (Nat.le_of_ble_eq_true rfl), (Nat.le_of_ble_eq_true rfl)⟩ (Nat.le_of_ble_eq_true rfl) dX5_above_6 (fun r2 => ?_)
  refine z_if_eq (pc := 9) hC 17 rfl dX5_above_9 ?_ ?_
  · refine z_iconst (pc := 17) hC (-1 : Int32) rfl dX5_above_17 ?_
    exact z_iret (pc := 18) hC rfl dX5_above_18
  · refine z_iload_n (pc := 12) hC 3 rfl 3 rfl dX5_above_12 ?_
    refine z_iconst (pc := 13) hC (1 : Int32) rfl dX5_above_13 ?_
    refine z_icmp_ge (pc := 14) hC 19 rfl dX5_above_14 ?_ ?_
    · refine z_aload_n (pc := 19) hC 0 rfl 0 rfl dX5_above_19 ?_
      refine zg_getW (pc := 20) hC hcl (hX 0 rfl) f_0_4 q435 dX5_above_20 (fun u3 hu3 gu3 => ?_)
      refine z_getc (pc := 23) hC (hu3 10 rfl) f_10_1 q379 dX5_above_23 ?_
      refine z_iload_n (pc := 26) hC 1 rfl 1 rfl dX5_above_26 ?_
      refine z_iload_n (pc := 27) hC 2 rfl 2 rfl dX5_above_27 ?_
      refine z_iload_n (pc := 28) hC 3 rfl 3 rfl dX5_above_28 ?_
      refine z_piS (pc := 29) (st := []) hC y_X1_placeAbove q922 [.inr (u3, 17), .inl (.int a1), .inl (.int a2), .inl (.int a3)] rfl (lft_p (c_X1_placeAbove hC.2.2.2.2.2.2.1 hu3 gu3)) rfl ⟨rfl, rfl, (Nat.le_of_ble_eq_true rfl), (Nat.le_of_ble_eq_true rfl)⟩ (Nat.le_of_ble_eq_true rfl) dX5_above_29 (fun r4 => ?_)
      exact z_iret (pc := 32) hC rfl dX5_above_32
    · refine z_iconst (pc := 17) hC (-1 : Int32) rfl dX5_above_17 ?_
      exact z_iret (pc := 18) hC rfl dX5_above_18
theorem c_X5_above {G : Geo} (hG : GOk G) (hcl : GCl G) (hX : LXx G) (hT : LSt G) {d : Mem} {a1 : Int32} {a2 : Int32} {a3 : Int32} (l : Launch) (r : Int32) (h : Fh_above d a1 a2 a3 = some r) : Mt l yX5_above cX5_above 4 (some .int) rm_X5_above G [.inr (0, 0), .inl (.int a1), .inl (.int a2), .inl (.int a3)] (gm d) (avI r) (gm d) :=
  mt_of (mem := gm) (po := poP avI (gm d)) (x0 := d) (t := r) rfl hG [.inr (0, 0), .inl (.int a1), .inl (.int a2), .inl (.int a3)] (Nat.le_of_ble_eq_true rfl) rfl (fun C hC => r_Fh_above hC hcl hX hT d a1 a2 a3) h
-- FrameHeirs.heir(III)I
abbrev rm_X5_heir : Room := { frames := 2, cells := 0, slots := 0, locals := 48 }
theorem dX5_heir_0 : decode cX5_heir 0 = .ok (.aload_n 0, 1) := by decide +kernel
theorem dX5_heir_1 : decode cX5_heir 1 = .ok (.getfield 38, 3) := by decide +kernel
theorem dX5_heir_4 : decode cX5_heir 4 = .ok (.iload_n 1, 1) := by decide +kernel
theorem dX5_heir_5 : decode cX5_heir 5 = .ok (.iload_n 2, 1) := by decide +kernel
theorem dX5_heir_6 : decode cX5_heir 6 = .ok (.invokevirtual 156, 3) := by decide +kernel
theorem dX5_heir_9 : decode cX5_heir 9 = .ok (.ifCond .eq 7, 3) := by decide +kernel
theorem dX5_heir_12 : decode cX5_heir 12 = .ok (.iload_n 3, 1) := by decide +kernel
theorem dX5_heir_13 : decode cX5_heir 13 = .ok (.ifCond .ge 5, 3) := by decide +kernel
theorem dX5_heir_16 : decode cX5_heir 16 = .ok (.iconst (-1), 1) := by decide +kernel
theorem dX5_heir_17 : decode cX5_heir 17 = .ok (.ireturn, 1) := by decide +kernel
theorem dX5_heir_18 : decode cX5_heir 18 = .ok (.aload_n 0, 1) := by decide +kernel
theorem dX5_heir_19 : decode cX5_heir 19 = .ok (.getfield 38, 3) := by decide +kernel
theorem dX5_heir_22 : decode cX5_heir 22 = .ok (.getfield 123, 3) := by decide +kernel
theorem dX5_heir_25 : decode cX5_heir 25 = .ok (.iload_n 1, 1) := by decide +kernel
theorem dX5_heir_26 : decode cX5_heir 26 = .ok (.iload_n 2, 1) := by decide +kernel
theorem dX5_heir_27 : decode cX5_heir 27 = .ok (.iload_n 3, 1) := by decide +kernel
theorem dX5_heir_28 : decode cX5_heir 28 = .ok (.invokestatic 185, 3) := by decide +kernel
theorem dX5_heir_31 : decode cX5_heir 31 = .ok (.ireturn, 1) := by decide +kernel
def Fh_heir (d : Mem) (a1 : Int32) (a2 : Int32) (a3 : Int32) : Option Int32 :=
  gref (d 0 0 4) fun u1 =>
  bp (Wo_isPlace d (d u1) a1 a2) fun r2 =>
  if r2 = 0 then
    (some (-1 : Int32))
  else
    (if 0 ≤ a3 then
      (gref (d 0 0 4) fun u3 =>
      bp (Qu_placeOfHeir (d u3) a1 a2 a3) fun r4 =>
      some r4)
    else
      (some (-1 : Int32)))
theorem y_X5_heir : YV yX5_heir cX5_heir 4 (some .int) 3 := ⟨q926, q927, q928, q143, by decide +kernel, by decide +kernel, by decide +kernel, by decide +kernel⟩
theorem r_Fh_heir {C : Cxt} {G : Geo} (hC : Cx C cX5_heir 4 "FrameHeirs" (some .int) rm_X5_heir G) (hcl : GCl G) (hX : LXx G) (hT : LSt G) (d : Mem) (a1 : Int32) (a2 : Int32) (a3 : Int32) : Rz C 4 G gm (poP avI (gm d)) 0 [(0, .inr (0, 0)), (1, .inl (.int a1)), (2, .inl (.int a2)), (3, .inl (.int a3))] [] d (Fh_heir d a1 a2 a3) := by
  unfold Fh_heir
  refine z_aload_n (pc := 0) hC 0 rfl 0 rfl dX5_heir_0 ?_
  refine zg_getW (pc := 1) hC hcl (hX 0 rfl) f_0_4 q435 dX5_heir_1 (fun u1 hu1 gu1 => ?_)
  refine z_iload_n (pc := 4) hC 1 rfl 1 rfl dX5_heir_4 ?_
  refine z_iload_n (pc := 5) hC 2 rfl 2 rfl dX5_heir_5 ?_
  refine z_piV (pc := 6) (st := []) hC y_X4_isPlace q921 [.inl (.int a1), .inl (.int a2)] rfl (hu1 10 rfl) rfl rfl (lft_p (c_X4_isPlace hC.2.2.2.2.2.2.1 hu1 gu1 hcl)) rfl ⟨rfl, rfl, (Nat.le_of_ble_eq_true rfl), (Nat.le_of_ble_eq_true rfl)⟩ (Nat.le_of_ble_eq_true rfl) dX5_heir_6 (fun r2 => ?_)
  refine z_if_eq (pc := 9) hC 16 rfl dX5_heir_9 ?_ ?_
  · refine z_iconst (pc := 16) hC (-1 : Int32) rfl dX5_heir_16 ?_
    exact z_iret (pc := 17) hC rfl dX5_heir_17
  · refine z_iload_n (pc := 12) hC 3 rfl 3 rfl dX5_heir_12 ?_
    refine z_if_ge (pc := 13) hC 18 rfl dX5_heir_13 ?_ ?_
    · refine z_aload_n (pc := 18) hC 0 rfl 0 rfl dX5_heir_18 ?_
      refine zg_getW (pc := 19) hC hcl (hX 0 rfl) f_0_4 q435 dX5_heir_19 (fun u3 hu3 gu3 => ?_)
      refine z_getc (pc := 22) hC (hu3 10 rfl) f_10_1 q379 dX5_heir_22 ?_
      refine z_iload_n (pc := 25) hC 1 rfl 1 rfl dX5_heir_25 ?_
      refine z_iload_n (pc := 26) hC 2 rfl 2 rfl dX5_heir_26 ?_
      refine z_iload_n (pc := 27) hC 3 rfl 3 rfl dX5_heir_27 ?_
      refine z_piS (pc := 28) (st := []) hC y_X1_placeOfHeir q929 [.inr (u3, 17), .inl (.int a1), .inl (.int a2), .inl (.int a3)] rfl (lft_p (c_X1_placeOfHeir hC.2.2.2.2.2.2.1 hu3 gu3)) rfl ⟨rfl, rfl, (Nat.le_of_ble_eq_true rfl), (Nat.le_of_ble_eq_true rfl)⟩ (Nat.le_of_ble_eq_true rfl) dX5_heir_28 (fun r4 => ?_)
      exact z_iret (pc := 31) hC rfl dX5_heir_31
    · refine z_iconst (pc := 16) hC (-1 : Int32) rfl dX5_heir_16 ?_
      exact z_iret (pc := 17) hC rfl dX5_heir_17
theorem c_X5_heir {G : Geo} (hG : GOk G) (hcl : GCl G) (hX : LXx G) (hT : LSt G) {d : Mem} {a1 : Int32} {a2 : Int32} {a3 : Int32} (l : Launch) (r : Int32) (h : Fh_heir d a1 a2 a3 = some r) : Mt l yX5_heir cX5_heir 4 (some .int) rm_X5_heir G [.inr (0, 0), .inl (.int a1), .inl (.int a2), .inl (.int a3)] (gm d) (avI r) (gm d) :=
  mt_of (mem := gm) (po := poP avI (gm d)) (x0 := d) (t := r) rfl hG [.inr (0, 0), .inl (.int a1), .inl (.int a2), .inl (.int a3)] (Nat.le_of_ble_eq_true rfl) rfl (fun C hC => r_Fh_heir hC hcl hX hT d a1 a2 a3) h
-- FrameHeirs.holds(II)I
abbrev rm_X5_holds : Room := { frames := 2, cells := 0, slots := 0, locals := 45 }
theorem dX5_holds_0 : decode cX5_holds 0 = .ok (.aload_n 0, 1) := by decide +kernel
theorem dX5_holds_1 : decode cX5_holds 1 = .ok (.getfield 38, 3) := by decide +kernel
theorem dX5_holds_4 : decode cX5_holds 4 = .ok (.iload_n 1, 1) := by decide +kernel
theorem dX5_holds_5 : decode cX5_holds 5 = .ok (.invokevirtual 188, 3) := by decide +kernel
theorem dX5_holds_8 : decode cX5_holds 8 = .ok (.ifCond .eq 10, 3) := by decide +kernel
theorem dX5_holds_11 : decode cX5_holds 11 = .ok (.iload_n 2, 1) := by decide +kernel
theorem dX5_holds_12 : decode cX5_holds 12 = .ok (.invokestatic 192, 3) := by decide +kernel
theorem dX5_holds_15 : decode cX5_holds 15 = .ok (.ifCond .ne 5, 3) := by decide +kernel
theorem dX5_holds_18 : decode cX5_holds 18 = .ok (.iconst (-1), 1) := by decide +kernel
theorem dX5_holds_19 : decode cX5_holds 19 = .ok (.ireturn, 1) := by decide +kernel
theorem dX5_holds_20 : decode cX5_holds 20 = .ok (.aload_n 0, 1) := by decide +kernel
theorem dX5_holds_21 : decode cX5_holds 21 = .ok (.getfield 38, 3) := by decide +kernel
theorem dX5_holds_24 : decode cX5_holds 24 = .ok (.getfield 123, 3) := by decide +kernel
theorem dX5_holds_27 : decode cX5_holds 27 = .ok (.iload_n 1, 1) := by decide +kernel
theorem dX5_holds_28 : decode cX5_holds 28 = .ok (.iload_n 2, 1) := by decide +kernel
theorem dX5_holds_29 : decode cX5_holds 29 = .ok (.invokestatic 195, 3) := by decide +kernel
theorem dX5_holds_32 : decode cX5_holds 32 = .ok (.ireturn, 1) := by decide +kernel
def Fh_holds (d : Mem) (a1 : Int32) (a2 : Int32) : Option Int32 :=
  gref (d 0 0 4) fun u1 =>
  bp (Wo_isFrame d (d u1) a1) fun r2 =>
  if r2 = 0 then
    (some (-1 : Int32))
  else
    (bp (Fh_areRights a2) fun r3 =>
    if r3 = 0 then
      (some (-1 : Int32))
    else
      (gref (d 0 0 4) fun u4 =>
      bp (Qu_holders (d u4) a1 a2) fun r5 =>
      some r5))
theorem y_X5_holds : YV yX5_holds cX5_holds 3 (some .int) 2 := ⟨q933, q934, q935, q143, by decide +kernel, by decide +kernel, by decide +kernel, by decide +kernel⟩
theorem r_Fh_holds {C : Cxt} {G : Geo} (hC : Cx C cX5_holds 3 "FrameHeirs" (some .int) rm_X5_holds G) (hcl : GCl G) (hX : LXx G) (hT : LSt G) (d : Mem) (a1 : Int32) (a2 : Int32) : Rz C 3 G gm (poP avI (gm d)) 0 [(0, .inr (0, 0)), (1, .inl (.int a1)), (2, .inl (.int a2))] [] d (Fh_holds d a1 a2) := by
  unfold Fh_holds
  refine z_aload_n (pc := 0) hC 0 rfl 0 rfl dX5_holds_0 ?_
  refine zg_getW (pc := 1) hC hcl (hX 0 rfl) f_0_4 q435 dX5_holds_1 (fun u1 hu1 gu1 => ?_)
  refine z_iload_n (pc := 4) hC 1 rfl 1 rfl dX5_holds_4 ?_
  refine z_piV (pc := 5) (st := []) hC y_X4_isFrame q936 [.inl (.int a1)] rfl (hu1 10 rfl) rfl rfl (lft_p (c_X4_isFrame hC.2.2.2.2.2.2.1 hu1 gu1 hcl)) rfl ⟨rfl, rfl, (Nat.le_of_ble_eq_true rfl), (Nat.le_of_ble_eq_true rfl)⟩ (Nat.le_of_ble_eq_true rfl) dX5_holds_5 (fun r2 => ?_)
  refine z_if_eq (pc := 8) hC 18 rfl dX5_holds_8 ?_ ?_
  · refine z_iconst (pc := 18) hC (-1 : Int32) rfl dX5_holds_18 ?_
    exact z_iret (pc := 19) hC rfl dX5_holds_19
  · refine z_iload_n (pc := 11) hC 2 rfl 2 rfl dX5_holds_11 ?_
    refine z_piS (pc := 12) (st := []) hC y_X5_areRights q940 [.inl (.int a2)] rfl (c_X5_areRights hC.2.2.2.2.2.2.1) rfl ⟨rfl, rfl, (Nat.le_of_ble_eq_true rfl), (Nat.le_of_ble_eq_true rfl)⟩ (Nat.le_of_ble_eq_true rfl) dX5_holds_12 (fun r3 => ?_)
    refine z_if_ne (pc := 15) hC 20 rfl dX5_holds_15 ?_ ?_
    · refine z_aload_n (pc := 20) hC 0 rfl 0 rfl dX5_holds_20 ?_
      refine zg_getW (pc := 21) hC hcl (hX 0 rfl) f_0_4 q435 dX5_holds_21 (fun u4 hu4 gu4 => ?_)
      refine z_getc (pc := 24) hC (hu4 10 rfl) f_10_1 q379 dX5_holds_24 ?_
      refine z_iload_n (pc := 27) hC 1 rfl 1 rfl dX5_holds_27 ?_
      refine z_iload_n (pc := 28) hC 2 rfl 2 rfl dX5_holds_28 ?_
      refine z_piS (pc := 29) (st := []) hC y_X1_holders q941 [.inr (u4, 17), .inl (.int a1), .inl (.int a2)] rfl (lft_p (c_X1_holders hC.2.2.2.2.2.2.1 hu4 gu4)) rfl ⟨rfl, rfl, (Nat.le_of_ble_eq_true rfl), (Nat.le_of_ble_eq_true rfl)⟩ (Nat.le_of_ble_eq_true rfl) dX5_holds_29 (fun r5 => ?_)
      exact z_iret (pc := 32) hC rfl dX5_holds_32
    · refine z_iconst (pc := 18) hC (-1 : Int32) rfl dX5_holds_18 ?_
      exact z_iret (pc := 19) hC rfl dX5_holds_19
theorem c_X5_holds {G : Geo} (hG : GOk G) (hcl : GCl G) (hX : LXx G) (hT : LSt G) {d : Mem} {a1 : Int32} {a2 : Int32} (l : Launch) (r : Int32) (h : Fh_holds d a1 a2 = some r) : Mt l yX5_holds cX5_holds 3 (some .int) rm_X5_holds G [.inr (0, 0), .inl (.int a1), .inl (.int a2)] (gm d) (avI r) (gm d) :=
  mt_of (mem := gm) (po := poP avI (gm d)) (x0 := d) (t := r) rfl hG [.inr (0, 0), .inl (.int a1), .inl (.int a2)] (Nat.le_of_ble_eq_true rfl) rfl (fun C hC => r_Fh_holds hC hcl hX hT d a1 a2) h
-- FrameHeirs.aliases(II)I
abbrev rm_X5_aliases : Room := { frames := 2, cells := 0, slots := 0, locals := 45 }
theorem dX5_aliases_0 : decode cX5_aliases 0 = .ok (.aload_n 0, 1) := by decide +kernel
theorem dX5_aliases_1 : decode cX5_aliases 1 = .ok (.getfield 38, 3) := by decide +kernel
theorem dX5_aliases_4 : decode cX5_aliases 4 = .ok (.iload_n 1, 1) := by decide +kernel
theorem dX5_aliases_5 : decode cX5_aliases 5 = .ok (.invokevirtual 199, 3) := by decide +kernel
theorem dX5_aliases_8 : decode cX5_aliases 8 = .ok (.ifCond .eq 14, 3) := by decide +kernel
theorem dX5_aliases_11 : decode cX5_aliases 11 = .ok (.aload_n 0, 1) := by decide +kernel
theorem dX5_aliases_12 : decode cX5_aliases 12 = .ok (.getfield 38, 3) := by decide +kernel
theorem dX5_aliases_15 : decode cX5_aliases 15 = .ok (.iload_n 2, 1) := by decide +kernel
theorem dX5_aliases_16 : decode cX5_aliases 16 = .ok (.invokevirtual 188, 3) := by decide +kernel
theorem dX5_aliases_19 : decode cX5_aliases 19 = .ok (.ifCond .ne 5, 3) := by decide +kernel
theorem dX5_aliases_22 : decode cX5_aliases 22 = .ok (.iconst (-1), 1) := by decide +kernel
theorem dX5_aliases_23 : decode cX5_aliases 23 = .ok (.ireturn, 1) := by decide +kernel
theorem dX5_aliases_24 : decode cX5_aliases 24 = .ok (.aload_n 0, 1) := by decide +kernel
theorem dX5_aliases_25 : decode cX5_aliases 25 = .ok (.getfield 38, 3) := by decide +kernel
theorem dX5_aliases_28 : decode cX5_aliases 28 = .ok (.getfield 123, 3) := by decide +kernel
theorem dX5_aliases_31 : decode cX5_aliases 31 = .ok (.iload_n 1, 1) := by decide +kernel
theorem dX5_aliases_32 : decode cX5_aliases 32 = .ok (.iload_n 2, 1) := by decide +kernel
theorem dX5_aliases_33 : decode cX5_aliases 33 = .ok (.invokestatic 202, 3) := by decide +kernel
theorem dX5_aliases_36 : decode cX5_aliases 36 = .ok (.ireturn, 1) := by decide +kernel
def Fh_aliases (d : Mem) (a1 : Int32) (a2 : Int32) : Option Int32 :=
  gref (d 0 0 4) fun u1 =>
  bp (Wo_isSpace d (d u1) a1) fun r2 =>
  if r2 = 0 then
    (some (-1 : Int32))
  else
    (gref (d 0 0 4) fun u3 =>
    bp (Wo_isFrame d (d u3) a2) fun r4 =>
    if r4 = 0 then
      (some (-1 : Int32))
    else
      (gref (d 0 0 4) fun u5 =>
      bp (Qu_placesOf (d u5) a1 a2) fun r6 =>
      some r6))
theorem y_X5_aliases : YV yX5_aliases cX5_aliases 3 (some .int) 2 := ⟨q948, q949, q950, q143, by decide +kernel, by decide +kernel, by decide +kernel, by decide +kernel⟩
theorem r_Fh_aliases {C : Cxt} {G : Geo} (hC : Cx C cX5_aliases 3 "FrameHeirs" (some .int) rm_X5_aliases G) (hcl : GCl G) (hX : LXx G) (hT : LSt G) (d : Mem) (a1 : Int32) (a2 : Int32) : Rz C 3 G gm (poP avI (gm d)) 0 [(0, .inr (0, 0)), (1, .inl (.int a1)), (2, .inl (.int a2))] [] d (Fh_aliases d a1 a2) := by
  unfold Fh_aliases
  refine z_aload_n (pc := 0) hC 0 rfl 0 rfl dX5_aliases_0 ?_
  refine zg_getW (pc := 1) hC hcl (hX 0 rfl) f_0_4 q435 dX5_aliases_1 (fun u1 hu1 gu1 => ?_)
  refine z_iload_n (pc := 4) hC 1 rfl 1 rfl dX5_aliases_4 ?_
  refine z_piV (pc := 5) (st := []) hC y_X4_isSpace q951 [.inl (.int a1)] rfl (hu1 10 rfl) rfl rfl (lft_p (c_X4_isSpace hC.2.2.2.2.2.2.1 hu1 gu1 hcl)) rfl ⟨rfl, rfl, (Nat.le_of_ble_eq_true rfl), (Nat.le_of_ble_eq_true rfl)⟩ (Nat.le_of_ble_eq_true rfl) dX5_aliases_5 (fun r2 => ?_)
  refine z_if_eq (pc := 8) hC 22 rfl dX5_aliases_8 ?_ ?_
  · refine z_iconst (pc := 22) hC (-1 : Int32) rfl dX5_aliases_22 ?_
    exact z_iret (pc := 23) hC rfl dX5_aliases_23
  · refine z_aload_n (pc := 11) hC 0 rfl 0 rfl dX5_aliases_11 ?_
    refine zg_getW (pc := 12) hC hcl (hX 0 rfl) f_0_4 q435 dX5_aliases_12 (fun u3 hu3 gu3 => ?_)
    refine z_iload_n (pc := 15) hC 2 rfl 2 rfl dX5_aliases_15 ?_
    refine z_piV (pc := 16) (st := []) hC y_X4_isFrame q936 [.inl (.int a2)] rfl (hu3 10 rfl) rfl rfl (lft_p (c_X4_isFrame hC.2.2.2.2.2.2.1 hu3 gu3 hcl)) rfl ⟨rfl, rfl, (Nat.le_of_ble_eq_true rfl), (Nat.le_of_ble_eq_true rfl)⟩ (Nat.le_of_ble_eq_true rfl) dX5_aliases_16 (fun r4 => ?_)
    refine z_if_ne (pc := 19) hC 24 rfl dX5_aliases_19 ?_ ?_
    · refine z_aload_n (pc := 24) hC 0 rfl 0 rfl dX5_aliases_24 ?_
      refine zg_getW (pc := 25) hC hcl (hX 0 rfl) f_0_4 q435 dX5_aliases_25 (fun u5 hu5 gu5 => ?_)
      refine z_getc (pc := 28) hC (hu5 10 rfl) f_10_1 q379 dX5_aliases_28 ?_
      refine z_iload_n (pc := 31) hC 1 rfl 1 rfl dX5_aliases_31 ?_
      refine z_iload_n (pc := 32) hC 2 rfl 2 rfl dX5_aliases_32 ?_
      refine z_piS (pc := 33) (st := []) hC y_X1_placesOf q952 [.inr (u5, 17), .inl (.int a1), .inl (.int a2)] rfl (lft_p (c_X1_placesOf hC.2.2.2.2.2.2.1 hu5 gu5)) rfl ⟨rfl, rfl, (Nat.le_of_ble_eq_true rfl), (Nat.le_of_ble_eq_true rfl)⟩ (Nat.le_of_ble_eq_true rfl) dX5_aliases_33 (fun r6 => ?_)
      exact z_iret (pc := 36) hC rfl dX5_aliases_36
    · refine z_iconst (pc := 22) hC (-1 : Int32) rfl dX5_aliases_22 ?_
      exact z_iret (pc := 23) hC rfl dX5_aliases_23
theorem c_X5_aliases {G : Geo} (hG : GOk G) (hcl : GCl G) (hX : LXx G) (hT : LSt G) {d : Mem} {a1 : Int32} {a2 : Int32} (l : Launch) (r : Int32) (h : Fh_aliases d a1 a2 = some r) : Mt l yX5_aliases cX5_aliases 3 (some .int) rm_X5_aliases G [.inr (0, 0), .inl (.int a1), .inl (.int a2)] (gm d) (avI r) (gm d) :=
  mt_of (mem := gm) (po := poP avI (gm d)) (x0 := d) (t := r) rfl hG [.inr (0, 0), .inl (.int a1), .inl (.int a2)] (Nat.le_of_ble_eq_true rfl) rfl (fun C hC => r_Fh_aliases hC hcl hX hT d a1 a2) h
-- FrameHeirs.reach(II)I
abbrev rm_X5_reach : Room := { frames := 2, cells := 0, slots := 0, locals := 48 }
theorem dX5_reach_0 : decode cX5_reach 0 = .ok (.aload_n 0, 1) := by decide +kernel
theorem dX5_reach_1 : decode cX5_reach 1 = .ok (.getfield 38, 3) := by decide +kernel
theorem dX5_reach_4 : decode cX5_reach 4 = .ok (.iload_n 1, 1) := by decide +kernel
theorem dX5_reach_5 : decode cX5_reach 5 = .ok (.invokevirtual 199, 3) := by decide +kernel
theorem dX5_reach_8 : decode cX5_reach 8 = .ok (.ifCond .eq 14, 3) := by decide +kernel
theorem dX5_reach_11 : decode cX5_reach 11 = .ok (.aload_n 0, 1) := by decide +kernel
theorem dX5_reach_12 : decode cX5_reach 12 = .ok (.getfield 38, 3) := by decide +kernel
theorem dX5_reach_15 : decode cX5_reach 15 = .ok (.iload_n 2, 1) := by decide +kernel
theorem dX5_reach_16 : decode cX5_reach 16 = .ok (.invokevirtual 199, 3) := by decide +kernel
theorem dX5_reach_19 : decode cX5_reach 19 = .ok (.ifCond .ne 5, 3) := by decide +kernel
theorem dX5_reach_22 : decode cX5_reach 22 = .ok (.iconst (-1), 1) := by decide +kernel
theorem dX5_reach_23 : decode cX5_reach 23 = .ok (.ireturn, 1) := by decide +kernel
theorem dX5_reach_24 : decode cX5_reach 24 = .ok (.aload_n 0, 1) := by decide +kernel
theorem dX5_reach_25 : decode cX5_reach 25 = .ok (.getfield 38, 3) := by decide +kernel
theorem dX5_reach_28 : decode cX5_reach 28 = .ok (.getfield 123, 3) := by decide +kernel
theorem dX5_reach_31 : decode cX5_reach 31 = .ok (.iload_n 1, 1) := by decide +kernel
theorem dX5_reach_32 : decode cX5_reach 32 = .ok (.iload_n 2, 1) := by decide +kernel
theorem dX5_reach_33 : decode cX5_reach 33 = .ok (.invokestatic 205, 3) := by decide +kernel
theorem dX5_reach_36 : decode cX5_reach 36 = .ok (.ireturn, 1) := by decide +kernel
def Fh_reach (d : Mem) (a1 : Int32) (a2 : Int32) : Option Int32 :=
  gref (d 0 0 4) fun u1 =>
  bp (Wo_isSpace d (d u1) a1) fun r2 =>
  if r2 = 0 then
    (some (-1 : Int32))
  else
    (gref (d 0 0 4) fun u3 =>
    bp (Wo_isSpace d (d u3) a2) fun r4 =>
    if r4 = 0 then
      (some (-1 : Int32))
    else
      (gref (d 0 0 4) fun u5 =>
      bp (Qu_pagesBeneath (d u5) a1 a2) fun r6 =>
      some r6))
theorem y_X5_reach : YV yX5_reach cX5_reach 3 (some .int) 2 := ⟨q956, q957, q958, q143, by decide +kernel, by decide +kernel, by decide +kernel, by decide +kernel⟩
theorem r_Fh_reach {C : Cxt} {G : Geo} (hC : Cx C cX5_reach 3 "FrameHeirs" (some .int) rm_X5_reach G) (hcl : GCl G) (hX : LXx G) (hT : LSt G) (d : Mem) (a1 : Int32) (a2 : Int32) : Rz C 3 G gm (poP avI (gm d)) 0 [(0, .inr (0, 0)), (1, .inl (.int a1)), (2, .inl (.int a2))] [] d (Fh_reach d a1 a2) := by
  unfold Fh_reach
  refine z_aload_n (pc := 0) hC 0 rfl 0 rfl dX5_reach_0 ?_
  refine zg_getW (pc := 1) hC hcl (hX 0 rfl) f_0_4 q435 dX5_reach_1 (fun u1 hu1 gu1 => ?_)
  refine z_iload_n (pc := 4) hC 1 rfl 1 rfl dX5_reach_4 ?_
  refine z_piV (pc := 5) (st := []) hC y_X4_isSpace q951 [.inl (.int a1)] rfl (hu1 10 rfl) rfl rfl (lft_p (c_X4_isSpace hC.2.2.2.2.2.2.1 hu1 gu1 hcl)) rfl ⟨rfl, rfl, (Nat.le_of_ble_eq_true rfl), (Nat.le_of_ble_eq_true rfl)⟩ (Nat.le_of_ble_eq_true rfl) dX5_reach_5 (fun r2 => ?_)
  refine z_if_eq (pc := 8) hC 22 rfl dX5_reach_8 ?_ ?_
  · refine z_iconst (pc := 22) hC (-1 : Int32) rfl dX5_reach_22 ?_
    exact z_iret (pc := 23) hC rfl dX5_reach_23
  · refine z_aload_n (pc := 11) hC 0 rfl 0 rfl dX5_reach_11 ?_
    refine zg_getW (pc := 12) hC hcl (hX 0 rfl) f_0_4 q435 dX5_reach_12 (fun u3 hu3 gu3 => ?_)
    refine z_iload_n (pc := 15) hC 2 rfl 2 rfl dX5_reach_15 ?_
    refine z_piV (pc := 16) (st := []) hC y_X4_isSpace q951 [.inl (.int a2)] rfl (hu3 10 rfl) rfl rfl (lft_p (c_X4_isSpace hC.2.2.2.2.2.2.1 hu3 gu3 hcl)) rfl ⟨rfl, rfl, (Nat.le_of_ble_eq_true rfl), (Nat.le_of_ble_eq_true rfl)⟩ (Nat.le_of_ble_eq_true rfl) dX5_reach_16 (fun r4 => ?_)
    refine z_if_ne (pc := 19) hC 24 rfl dX5_reach_19 ?_ ?_
    · refine z_aload_n (pc := 24) hC 0 rfl 0 rfl dX5_reach_24 ?_
      refine zg_getW (pc := 25) hC hcl (hX 0 rfl) f_0_4 q435 dX5_reach_25 (fun u5 hu5 gu5 => ?_)
      refine z_getc (pc := 28) hC (hu5 10 rfl) f_10_1 q379 dX5_reach_28 ?_
      refine z_iload_n (pc := 31) hC 1 rfl 1 rfl dX5_reach_31 ?_
      refine z_iload_n (pc := 32) hC 2 rfl 2 rfl dX5_reach_32 ?_
      refine z_piS (pc := 33) (st := []) hC y_X1_pagesBeneath q959 [.inr (u5, 17), .inl (.int a1), .inl (.int a2)] rfl (lft_p (c_X1_pagesBeneath hC.2.2.2.2.2.2.1 hu5 gu5)) rfl ⟨rfl, rfl, (Nat.le_of_ble_eq_true rfl), (Nat.le_of_ble_eq_true rfl)⟩ (Nat.le_of_ble_eq_true rfl) dX5_reach_33 (fun r6 => ?_)
      exact z_iret (pc := 36) hC rfl dX5_reach_36
    · refine z_iconst (pc := 22) hC (-1 : Int32) rfl dX5_reach_22 ?_
      exact z_iret (pc := 23) hC rfl dX5_reach_23
theorem c_X5_reach {G : Geo} (hG : GOk G) (hcl : GCl G) (hX : LXx G) (hT : LSt G) {d : Mem} {a1 : Int32} {a2 : Int32} (l : Launch) (r : Int32) (h : Fh_reach d a1 a2 = some r) : Mt l yX5_reach cX5_reach 3 (some .int) rm_X5_reach G [.inr (0, 0), .inl (.int a1), .inl (.int a2)] (gm d) (avI r) (gm d) :=
  mt_of (mem := gm) (po := poP avI (gm d)) (x0 := d) (t := r) rfl hG [.inr (0, 0), .inl (.int a1), .inl (.int a2)] (Nat.le_of_ble_eq_true rfl) rfl (fun C hC => r_Fh_reach hC hcl hX hT d a1 a2) h
-- FrameHeirs.shared(II)I
abbrev rm_X5_shared : Room := { frames := 2, cells := 0, slots := 0, locals := 46 }
theorem dX5_shared_0 : decode cX5_shared 0 = .ok (.aload_n 0, 1) := by decide +kernel
theorem dX5_shared_1 : decode cX5_shared 1 = .ok (.getfield 38, 3) := by decide +kernel
theorem dX5_shared_4 : decode cX5_shared 4 = .ok (.iload_n 1, 1) := by decide +kernel
theorem dX5_shared_5 : decode cX5_shared 5 = .ok (.invokevirtual 199, 3) := by decide +kernel
theorem dX5_shared_8 : decode cX5_shared 8 = .ok (.ifCond .eq 14, 3) := by decide +kernel
theorem dX5_shared_11 : decode cX5_shared 11 = .ok (.aload_n 0, 1) := by decide +kernel
theorem dX5_shared_12 : decode cX5_shared 12 = .ok (.getfield 38, 3) := by decide +kernel
theorem dX5_shared_15 : decode cX5_shared 15 = .ok (.iload_n 2, 1) := by decide +kernel
theorem dX5_shared_16 : decode cX5_shared 16 = .ok (.invokevirtual 199, 3) := by decide +kernel
theorem dX5_shared_19 : decode cX5_shared 19 = .ok (.ifCond .ne 5, 3) := by decide +kernel
theorem dX5_shared_22 : decode cX5_shared 22 = .ok (.iconst (-1), 1) := by decide +kernel
theorem dX5_shared_23 : decode cX5_shared 23 = .ok (.ireturn, 1) := by decide +kernel
theorem dX5_shared_24 : decode cX5_shared 24 = .ok (.aload_n 0, 1) := by decide +kernel
theorem dX5_shared_25 : decode cX5_shared 25 = .ok (.getfield 38, 3) := by decide +kernel
theorem dX5_shared_28 : decode cX5_shared 28 = .ok (.getfield 123, 3) := by decide +kernel
theorem dX5_shared_31 : decode cX5_shared 31 = .ok (.iload_n 1, 1) := by decide +kernel
theorem dX5_shared_32 : decode cX5_shared 32 = .ok (.invokestatic 208, 3) := by decide +kernel
theorem dX5_shared_35 : decode cX5_shared 35 = .ok (.aload_n 0, 1) := by decide +kernel
theorem dX5_shared_36 : decode cX5_shared 36 = .ok (.getfield 38, 3) := by decide +kernel
theorem dX5_shared_39 : decode cX5_shared 39 = .ok (.getfield 123, 3) := by decide +kernel
theorem dX5_shared_42 : decode cX5_shared 42 = .ok (.iload_n 2, 1) := by decide +kernel
theorem dX5_shared_43 : decode cX5_shared 43 = .ok (.invokestatic 208, 3) := by decide +kernel
theorem dX5_shared_46 : decode cX5_shared 46 = .ok (.iand, 1) := by decide +kernel
theorem dX5_shared_47 : decode cX5_shared 47 = .ok (.invokestatic 212, 3) := by decide +kernel
theorem dX5_shared_50 : decode cX5_shared 50 = .ok (.ireturn, 1) := by decide +kernel
def Fh_shared (d : Mem) (a1 : Int32) (a2 : Int32) : Option Int32 :=
  gref (d 0 0 4) fun u1 =>
  bp (Wo_isSpace d (d u1) a1) fun r2 =>
  if r2 = 0 then
    (some (-1 : Int32))
  else
    (gref (d 0 0 4) fun u3 =>
    bp (Wo_isSpace d (d u3) a2) fun r4 =>
    if r4 = 0 then
      (some (-1 : Int32))
    else
      (gref (d 0 0 4) fun u5 =>
      bp (Qu_framesOf (d u5) a1) fun r6 =>
      gref (d 0 0 4) fun u7 =>
      bp (Qu_framesOf (d u7) a2) fun r8 =>
      bp (Jk_bitCount_0f7a4 (r6 &&& r8)) fun r9 =>
      some r9))
theorem y_X5_shared : YV yX5_shared cX5_shared 3 (some .int) 2 := ⟨q966, q967, q968, q143, by decide +kernel, by decide +kernel, by decide +kernel, by decide +kernel⟩
theorem r_Fh_shared {C : Cxt} {G : Geo} (hC : Cx C cX5_shared 3 "FrameHeirs" (some .int) rm_X5_shared G) (hcl : GCl G) (hX : LXx G) (hT : LSt G) (d : Mem) (a1 : Int32) (a2 : Int32) : Rz C 3 G gm (poP avI (gm d)) 0 [(0, .inr (0, 0)), (1, .inl (.int a1)), (2, .inl (.int a2))] [] d (Fh_shared d a1 a2) := by
  unfold Fh_shared
  refine z_aload_n (pc := 0) hC 0 rfl 0 rfl dX5_shared_0 ?_
  refine zg_getW (pc := 1) hC hcl (hX 0 rfl) f_0_4 q435 dX5_shared_1 (fun u1 hu1 gu1 => ?_)
  refine z_iload_n (pc := 4) hC 1 rfl 1 rfl dX5_shared_4 ?_
  refine z_piV (pc := 5) (st := []) hC y_X4_isSpace q951 [.inl (.int a1)] rfl (hu1 10 rfl) rfl rfl (lft_p (c_X4_isSpace hC.2.2.2.2.2.2.1 hu1 gu1 hcl)) rfl ⟨rfl, rfl, (Nat.le_of_ble_eq_true rfl), (Nat.le_of_ble_eq_true rfl)⟩ (Nat.le_of_ble_eq_true rfl) dX5_shared_5 (fun r2 => ?_)
  refine z_if_eq (pc := 8) hC 22 rfl dX5_shared_8 ?_ ?_
  · refine z_iconst (pc := 22) hC (-1 : Int32) rfl dX5_shared_22 ?_
    exact z_iret (pc := 23) hC rfl dX5_shared_23
  · refine z_aload_n (pc := 11) hC 0 rfl 0 rfl dX5_shared_11 ?_
    refine zg_getW (pc := 12) hC hcl (hX 0 rfl) f_0_4 q435 dX5_shared_12 (fun u3 hu3 gu3 => ?_)
    refine z_iload_n (pc := 15) hC 2 rfl 2 rfl dX5_shared_15 ?_
    refine z_piV (pc := 16) (st := []) hC y_X4_isSpace q951 [.inl (.int a2)] rfl (hu3 10 rfl) rfl rfl (lft_p (c_X4_isSpace hC.2.2.2.2.2.2.1 hu3 gu3 hcl)) rfl ⟨rfl, rfl, (Nat.le_of_ble_eq_true rfl), (Nat.le_of_ble_eq_true rfl)⟩ (Nat.le_of_ble_eq_true rfl) dX5_shared_16 (fun r4 => ?_)
    refine z_if_ne (pc := 19) hC 24 rfl dX5_shared_19 ?_ ?_
    · refine z_aload_n (pc := 24) hC 0 rfl 0 rfl dX5_shared_24 ?_
      refine zg_getW (pc := 25) hC hcl (hX 0 rfl) f_0_4 q435 dX5_shared_25 (fun u5 hu5 gu5 => ?_)
      refine z_getc (pc := 28) hC (hu5 10 rfl) f_10_1 q379 dX5_shared_28 ?_
      refine z_iload_n (pc := 31) hC 1 rfl 1 rfl dX5_shared_31 ?_
      refine z_piS (pc := 32) (st := []) hC y_X1_framesOf q969 [.inr (u5, 17), .inl (.int a1)] rfl (lft_p (c_X1_framesOf hC.2.2.2.2.2.2.1 hu5 gu5)) rfl ⟨rfl, rfl, (Nat.le_of_ble_eq_true rfl), (Nat.le_of_ble_eq_true rfl)⟩ (Nat.le_of_ble_eq_true rfl) dX5_shared_32 (fun r6 => ?_)
      refine z_aload_n (pc := 35) hC 0 rfl 0 rfl dX5_shared_35 ?_
      refine zg_getW (pc := 36) hC hcl (hX 0 rfl) f_0_4 q435 dX5_shared_36 (fun u7 hu7 gu7 => ?_)
      refine z_getc (pc := 39) hC (hu7 10 rfl) f_10_1 q379 dX5_shared_39 ?_
      refine z_iload_n (pc := 42) hC 2 rfl 2 rfl dX5_shared_42 ?_
      refine z_piS (pc := 43) (st := [.inl (.int r6)]) hC y_X1_framesOf q969 [.inr (u7, 17), .inl (.int a2)] rfl (lft_p (c_X1_framesOf hC.2.2.2.2.2.2.1 hu7 gu7)) rfl ⟨rfl, rfl, (Nat.le_of_ble_eq_true rfl), (Nat.le_of_ble_eq_true rfl)⟩ (Nat.le_of_ble_eq_true rfl) dX5_shared_43 (fun r8 => ?_)
      refine z_iand (pc := 46) hC dX5_shared_46 ?_
      refine z_piS (pc := 47) (st := []) hC y_J6_bitCount_0f7a4 q970 [.inl (.int (r6 &&& r8))] rfl (c_J6_bitCount_0f7a4 hC.2.2.2.2.2.2.1) rfl ⟨rfl, rfl, (Nat.le_of_ble_eq_true rfl), (Nat.le_of_ble_eq_true rfl)⟩ (Nat.le_of_ble_eq_true rfl) dX5_shared_47 (fun r9 => ?_)
      exact z_iret (pc := 50) hC rfl dX5_shared_50
    · refine z_iconst (pc := 22) hC (-1 : Int32) rfl dX5_shared_22 ?_
      exact z_iret (pc := 23) hC rfl dX5_shared_23
theorem c_X5_shared {G : Geo} (hG : GOk G) (hcl : GCl G) (hX : LXx G) (hT : LSt G) {d : Mem} {a1 : Int32} {a2 : Int32} (l : Launch) (r : Int32) (h : Fh_shared d a1 a2 = some r) : Mt l yX5_shared cX5_shared 3 (some .int) rm_X5_shared G [.inr (0, 0), .inl (.int a1), .inl (.int a2)] (gm d) (avI r) (gm d) :=
  mt_of (mem := gm) (po := poP avI (gm d)) (x0 := d) (t := r) rfl hG [.inr (0, 0), .inl (.int a1), .inl (.int a2)] (Nat.le_of_ble_eq_true rfl) rfl (fun C hC => r_Fh_shared hC hcl hX hT d a1 a2) h
-- FrameHeirs.gates(II)I
abbrev rm_X5_gates : Room := { frames := 2, cells := 0, slots := 0, locals := 51 }
theorem dX5_gates_0 : decode cX5_gates 0 = .ok (.aload_n 0, 1) := by decide +kernel
theorem dX5_gates_1 : decode cX5_gates 1 = .ok (.getfield 38, 3) := by decide +kernel
theorem dX5_gates_4 : decode cX5_gates 4 = .ok (.iload_n 1, 1) := by decide +kernel
theorem dX5_gates_5 : decode cX5_gates 5 = .ok (.iload_n 2, 1) := by decide +kernel
theorem dX5_gates_6 : decode cX5_gates 6 = .ok (.invokevirtual 217, 3) := by decide +kernel
theorem dX5_gates_9 : decode cX5_gates 9 = .ok (.ifCond .ne 5, 3) := by decide +kernel
theorem dX5_gates_12 : decode cX5_gates 12 = .ok (.iconst (-1), 1) := by decide +kernel
theorem dX5_gates_13 : decode cX5_gates 13 = .ok (.ireturn, 1) := by decide +kernel
theorem dX5_gates_14 : decode cX5_gates 14 = .ok (.aload_n 0, 1) := by decide +kernel
theorem dX5_gates_15 : decode cX5_gates 15 = .ok (.getfield 38, 3) := by decide +kernel
theorem dX5_gates_18 : decode cX5_gates 18 = .ok (.getfield 123, 3) := by decide +kernel
theorem dX5_gates_21 : decode cX5_gates 21 = .ok (.iload_n 1, 1) := by decide +kernel
theorem dX5_gates_22 : decode cX5_gates 22 = .ok (.iload_n 2, 1) := by decide +kernel
theorem dX5_gates_23 : decode cX5_gates 23 = .ok (.invokestatic 220, 3) := by decide +kernel
theorem dX5_gates_26 : decode cX5_gates 26 = .ok (.ireturn, 1) := by decide +kernel
def Fh_gates (d : Mem) (a1 : Int32) (a2 : Int32) : Option (Int32 × Mem) :=
  gref (d 0 0 4) fun u1 =>
  bp (Wo_areTwo d (d u1) a1 a2) fun r2 =>
  if r2 = 0 then
    (some ((-1 : Int32), d))
  else
    (gref (d 0 0 4) fun u3 =>
    bd (lft d u3 (Qu_partings (d u3) a1 a2)) fun r4 d5 =>
    some (r4, d5))
theorem y_X5_gates : YV yX5_gates cX5_gates 3 (some .int) 2 := ⟨q977, q978, q979, q143, by decide +kernel, by decide +kernel, by decide +kernel, by decide +kernel⟩
theorem r_Fh_gates {C : Cxt} {G : Geo} (hC : Cx C cX5_gates 3 "FrameHeirs" (some .int) rm_X5_gates G) (hcl : GCl G) (hX : LXx G) (hT : LSt G) (d : Mem) (a1 : Int32) (a2 : Int32) : Rz C 3 G gm (poM avI gm) 0 [(0, .inr (0, 0)), (1, .inl (.int a1)), (2, .inl (.int a2))] [] d (Fh_gates d a1 a2) := by
  unfold Fh_gates
  refine z_aload_n (pc := 0) hC 0 rfl 0 rfl dX5_gates_0 ?_
  refine zg_getW (pc := 1) hC hcl (hX 0 rfl) f_0_4 q435 dX5_gates_1 (fun u1 hu1 gu1 => ?_)
  refine z_iload_n (pc := 4) hC 1 rfl 1 rfl dX5_gates_4 ?_
  refine z_iload_n (pc := 5) hC 2 rfl 2 rfl dX5_gates_5 ?_
  refine z_piV (pc := 6) (st := []) hC y_X4_areTwo q980 [.inl (.int a1), .inl (.int a2)] rfl (hu1 10 rfl) rfl rfl (lft_p (c_X4_areTwo hC.2.2.2.2.2.2.1 hu1 gu1 hcl)) rfl ⟨rfl, rfl, (Nat.le_of_ble_eq_true rfl), (Nat.le_of_ble_eq_true rfl)⟩ (Nat.le_of_ble_eq_true rfl) dX5_gates_6 (fun r2 => ?_)
  refine z_if_ne (pc := 9) hC 14 rfl dX5_gates_9 ?_ ?_
  · refine z_aload_n (pc := 14) hC 0 rfl 0 rfl dX5_gates_14 ?_
    refine zg_getW (pc := 15) hC hcl (hX 0 rfl) f_0_4 q435 dX5_gates_15 (fun u3 hu3 gu3 => ?_)
    refine z_getc (pc := 18) hC (hu3 10 rfl) f_10_1 q379 dX5_gates_18 ?_
    refine z_iload_n (pc := 21) hC 1 rfl 1 rfl dX5_gates_21 ?_
    refine z_iload_n (pc := 22) hC 2 rfl 2 rfl dX5_gates_22 ?_
    refine z_ciS (pc := 23) (st := []) hC y_X1_partings q981 [.inr (u3, 17), .inl (.int a1), .inl (.int a2)] rfl (lft_m (c_X1_partings hC.2.2.2.2.2.2.1 hu3 gu3)) rfl ⟨rfl, rfl, (Nat.le_of_ble_eq_true rfl), (Nat.le_of_ble_eq_true rfl)⟩ (Nat.le_of_ble_eq_true rfl) dX5_gates_23 (fun r4 d5 => ?_)
    exact z_iret (pc := 26) hC rfl dX5_gates_26
  · refine z_iconst (pc := 12) hC (-1 : Int32) rfl dX5_gates_12 ?_
    exact z_iret (pc := 13) hC rfl dX5_gates_13
theorem c_X5_gates {G : Geo} (hG : GOk G) (hcl : GCl G) (hX : LXx G) (hT : LSt G) {d : Mem} {a1 : Int32} {a2 : Int32} (l : Launch) (r : Int32) (d1 : Mem) (h : Fh_gates d a1 a2 = some (r, d1)) : Mt l yX5_gates cX5_gates 3 (some .int) rm_X5_gates G [.inr (0, 0), .inl (.int a1), .inl (.int a2)] (gm d) (avI r) (gm d1) :=
  mt_of (mem := gm) (po := poM avI gm) (x0 := d) (t := (r, d1)) rfl hG [.inr (0, 0), .inl (.int a1), .inl (.int a2)] (Nat.le_of_ble_eq_true rfl) rfl (fun C hC => r_Fh_gates hC hcl hX hT d a1 a2) h
-- FrameHeirs.gap(II)I
abbrev rm_X5_gap : Room := { frames := 2, cells := 0, slots := 0, locals := 49 }
theorem dX5_gap_0 : decode cX5_gap 0 = .ok (.aload_n 0, 1) := by decide +kernel
theorem dX5_gap_1 : decode cX5_gap 1 = .ok (.getfield 38, 3) := by decide +kernel
theorem dX5_gap_4 : decode cX5_gap 4 = .ok (.iload_n 1, 1) := by decide +kernel
theorem dX5_gap_5 : decode cX5_gap 5 = .ok (.invokevirtual 199, 3) := by decide +kernel
theorem dX5_gap_8 : decode cX5_gap 8 = .ok (.ifCond .eq 12, 3) := by decide +kernel
theorem dX5_gap_11 : decode cX5_gap 11 = .ok (.iload_n 2, 1) := by decide +kernel
theorem dX5_gap_12 : decode cX5_gap 12 = .ok (.ifCond .lt 8, 3) := by decide +kernel
theorem dX5_gap_15 : decode cX5_gap 15 = .ok (.iload_n 2, 1) := by decide +kernel
theorem dX5_gap_16 : decode cX5_gap 16 = .ok (.iconst 3, 1) := by decide +kernel
theorem dX5_gap_17 : decode cX5_gap 17 = .ok (.if_icmp .le 5, 3) := by decide +kernel
theorem dX5_gap_20 : decode cX5_gap 20 = .ok (.iconst (-1), 1) := by decide +kernel
theorem dX5_gap_21 : decode cX5_gap 21 = .ok (.ireturn, 1) := by decide +kernel
theorem dX5_gap_22 : decode cX5_gap 22 = .ok (.aload_n 0, 1) := by decide +kernel
theorem dX5_gap_23 : decode cX5_gap 23 = .ok (.getfield 38, 3) := by decide +kernel
theorem dX5_gap_26 : decode cX5_gap 26 = .ok (.iload_n 1, 1) := by decide +kernel
theorem dX5_gap_27 : decode cX5_gap 27 = .ok (.iload_n 2, 1) := by decide +kernel
theorem dX5_gap_28 : decode cX5_gap 28 = .ok (.invokevirtual 223, 3) := by decide +kernel
theorem dX5_gap_31 : decode cX5_gap 31 = .ok (.ireturn, 1) := by decide +kernel
def Fh_gap (d : Mem) (a1 : Int32) (a2 : Int32) : Option Int32 :=
  gref (d 0 0 4) fun u1 =>
  bp (Wo_isSpace d (d u1) a1) fun r2 =>
  if r2 = 0 then
    (some (-1 : Int32))
  else
    (if a2 < 0 then
      (some (-1 : Int32))
    else
      (if a2 ≤ (3 : Int32) then
        (gref (d 0 0 4) fun u3 =>
        bp (Wo_firstGap d (d u3) a1 a2) fun r4 =>
        some r4)
      else
        (some (-1 : Int32))))
theorem y_X5_gap : YV yX5_gap cX5_gap 3 (some .int) 2 := ⟨q989, q990, q991, q143, by decide +kernel, by decide +kernel, by decide +kernel, by decide +kernel⟩
theorem r_Fh_gap {C : Cxt} {G : Geo} (hC : Cx C cX5_gap 3 "FrameHeirs" (some .int) rm_X5_gap G) (hcl : GCl G) (hX : LXx G) (hT : LSt G) (d : Mem) (a1 : Int32) (a2 : Int32) : Rz C 3 G gm (poP avI (gm d)) 0 [(0, .inr (0, 0)), (1, .inl (.int a1)), (2, .inl (.int a2))] [] d (Fh_gap d a1 a2) := by
  unfold Fh_gap
  refine z_aload_n (pc := 0) hC 0 rfl 0 rfl dX5_gap_0 ?_
  refine zg_getW (pc := 1) hC hcl (hX 0 rfl) f_0_4 q435 dX5_gap_1 (fun u1 hu1 gu1 => ?_)
  refine z_iload_n (pc := 4) hC 1 rfl 1 rfl dX5_gap_4 ?_
  refine z_piV (pc := 5) (st := []) hC y_X4_isSpace q951 [.inl (.int a1)] rfl (hu1 10 rfl) rfl rfl (lft_p (c_X4_isSpace hC.2.2.2.2.2.2.1 hu1 gu1 hcl)) rfl ⟨rfl, rfl, (Nat.le_of_ble_eq_true rfl), (Nat.le_of_ble_eq_true rfl)⟩ (Nat.le_of_ble_eq_true rfl) dX5_gap_5 (fun r2 => ?_)
  refine z_if_eq (pc := 8) hC 20 rfl dX5_gap_8 ?_ ?_
  · refine z_iconst (pc := 20) hC (-1 : Int32) rfl dX5_gap_20 ?_
    exact z_iret (pc := 21) hC rfl dX5_gap_21
  · refine z_iload_n (pc := 11) hC 2 rfl 2 rfl dX5_gap_11 ?_
    refine z_if_lt (pc := 12) hC 20 rfl dX5_gap_12 ?_ ?_
    · refine z_iconst (pc := 20) hC (-1 : Int32) rfl dX5_gap_20 ?_
      exact z_iret (pc := 21) hC rfl dX5_gap_21
    · refine z_iload_n (pc := 15) hC 2 rfl 2 rfl dX5_gap_15 ?_
      refine z_iconst (pc := 16) hC (3 : Int32) rfl dX5_gap_16 ?_
      refine z_icmp_le (pc := 17) hC 22 rfl dX5_gap_17 ?_ ?_
      · refine z_aload_n (pc := 22) hC 0 rfl 0 rfl dX5_gap_22 ?_
        refine zg_getW (pc := 23) hC hcl (hX 0 rfl) f_0_4 q435 dX5_gap_23 (fun u3 hu3 gu3 => ?_)
        refine z_iload_n (pc := 26) hC 1 rfl 1 rfl dX5_gap_26 ?_
        refine z_iload_n (pc := 27) hC 2 rfl 2 rfl dX5_gap_27 ?_
        refine z_piV (pc := 28) (st := []) hC y_X4_firstGap q992 [.inl (.int a1), .inl (.int a2)] rfl (hu3 10 rfl) rfl rfl (lft_p (c_X4_firstGap hC.2.2.2.2.2.2.1 hu3 gu3 hcl)) rfl ⟨rfl, rfl, (Nat.le_of_ble_eq_true rfl), (Nat.le_of_ble_eq_true rfl)⟩ (Nat.le_of_ble_eq_true rfl) dX5_gap_28 (fun r4 => ?_)
        exact z_iret (pc := 31) hC rfl dX5_gap_31
      · refine z_iconst (pc := 20) hC (-1 : Int32) rfl dX5_gap_20 ?_
        exact z_iret (pc := 21) hC rfl dX5_gap_21
theorem c_X5_gap {G : Geo} (hG : GOk G) (hcl : GCl G) (hX : LXx G) (hT : LSt G) {d : Mem} {a1 : Int32} {a2 : Int32} (l : Launch) (r : Int32) (h : Fh_gap d a1 a2 = some r) : Mt l yX5_gap cX5_gap 3 (some .int) rm_X5_gap G [.inr (0, 0), .inl (.int a1), .inl (.int a2)] (gm d) (avI r) (gm d) :=
  mt_of (mem := gm) (po := poP avI (gm d)) (x0 := d) (t := r) rfl hG [.inr (0, 0), .inl (.int a1), .inl (.int a2)] (Nat.le_of_ble_eq_true rfl) rfl (fun C hC => r_Fh_gap hC hcl hX hT d a1 a2) h
-- FrameHeirs.free(I)I
abbrev rm_X5_free : Room := { frames := 3, cells := 0, slots := 0, locals := 68 }
theorem dX5_free_0 : decode cX5_free 0 = .ok (.aload_n 0, 1) := by decide +kernel
theorem dX5_free_1 : decode cX5_free 1 = .ok (.getfield 38, 3) := by decide +kernel
theorem dX5_free_4 : decode cX5_free 4 = .ok (.iload_n 1, 1) := by decide +kernel
theorem dX5_free_5 : decode cX5_free 5 = .ok (.invokevirtual 199, 3) := by decide +kernel
theorem dX5_free_8 : decode cX5_free 8 = .ok (.ifCond .eq 14, 3) := by decide +kernel
theorem dX5_free_11 : decode cX5_free 11 = .ok (.aload_n 0, 1) := by decide +kernel
theorem dX5_free_12 : decode cX5_free 12 = .ok (.getfield 38, 3) := by decide +kernel
theorem dX5_free_15 : decode cX5_free 15 = .ok (.iload_n 1, 1) := by decide +kernel
theorem dX5_free_16 : decode cX5_free 16 = .ok (.invokevirtual 226, 3) := by decide +kernel
theorem dX5_free_19 : decode cX5_free 19 = .ok (.goto 4, 3) := by decide +kernel
theorem dX5_free_22 : decode cX5_free 22 = .ok (.iconst (-1), 1) := by decide +kernel
theorem dX5_free_23 : decode cX5_free 23 = .ok (.ireturn, 1) := by decide +kernel
def Fh_free (d : Mem) (a1 : Int32) : Option Int32 :=
  gref (d 0 0 4) fun u1 =>
  bp (Wo_isSpace d (d u1) a1) fun r2 =>
  if r2 = 0 then
    (some (-1 : Int32))
  else
    (gref (d 0 0 4) fun u3 =>
    bp (Wo_roomOf d (d u3) a1) fun r4 =>
    some r4)
theorem y_X5_free : YV yX5_free cX5_free 2 (some .int) 1 := ⟨q997, q998, q999, q143, by decide +kernel, by decide +kernel, by decide +kernel, by decide +kernel⟩
theorem r_Fh_free {C : Cxt} {G : Geo} (hC : Cx C cX5_free 2 "FrameHeirs" (some .int) rm_X5_free G) (hcl : GCl G) (hX : LXx G) (hT : LSt G) (d : Mem) (a1 : Int32) : Rz C 2 G gm (poP avI (gm d)) 0 [(0, .inr (0, 0)), (1, .inl (.int a1))] [] d (Fh_free d a1) := by
  unfold Fh_free
  refine z_aload_n (pc := 0) hC 0 rfl 0 rfl dX5_free_0 ?_
  refine zg_getW (pc := 1) hC hcl (hX 0 rfl) f_0_4 q435 dX5_free_1 (fun u1 hu1 gu1 => ?_)
  refine z_iload_n (pc := 4) hC 1 rfl 1 rfl dX5_free_4 ?_
  refine z_piV (pc := 5) (st := []) hC y_X4_isSpace q951 [.inl (.int a1)] rfl (hu1 10 rfl) rfl rfl (lft_p (c_X4_isSpace hC.2.2.2.2.2.2.1 hu1 gu1 hcl)) rfl ⟨rfl, rfl, (Nat.le_of_ble_eq_true rfl), (Nat.le_of_ble_eq_true rfl)⟩ (Nat.le_of_ble_eq_true rfl) dX5_free_5 (fun r2 => ?_)
  refine z_if_eq (pc := 8) hC 22 rfl dX5_free_8 ?_ ?_
  · refine z_iconst (pc := 22) hC (-1 : Int32) rfl dX5_free_22 ?_
    exact z_iret (pc := 23) hC rfl dX5_free_23
  · refine z_aload_n (pc := 11) hC 0 rfl 0 rfl dX5_free_11 ?_
    refine zg_getW (pc := 12) hC hcl (hX 0 rfl) f_0_4 q435 dX5_free_12 (fun u3 hu3 gu3 => ?_)
    refine z_iload_n (pc := 15) hC 1 rfl 1 rfl dX5_free_15 ?_
    refine z_piV (pc := 16) (st := []) hC y_X4_roomOf q1000 [.inl (.int a1)] rfl (hu3 10 rfl) rfl rfl (lft_p (c_X4_roomOf hC.2.2.2.2.2.2.1 hu3 gu3 hcl)) rfl ⟨rfl, rfl, (Nat.le_of_ble_eq_true rfl), (Nat.le_of_ble_eq_true rfl)⟩ (Nat.le_of_ble_eq_true rfl) dX5_free_16 (fun r4 => ?_)
    refine z_goto (pc := 19) hC 23 rfl dX5_free_19 ?_
    exact z_iret (pc := 23) hC rfl dX5_free_23
theorem c_X5_free {G : Geo} (hG : GOk G) (hcl : GCl G) (hX : LXx G) (hT : LSt G) {d : Mem} {a1 : Int32} (l : Launch) (r : Int32) (h : Fh_free d a1 = some r) : Mt l yX5_free cX5_free 2 (some .int) rm_X5_free G [.inr (0, 0), .inl (.int a1)] (gm d) (avI r) (gm d) :=
  mt_of (mem := gm) (po := poP avI (gm d)) (x0 := d) (t := r) rfl hG [.inr (0, 0), .inl (.int a1)] (Nat.le_of_ble_eq_true rfl) rfl (fun C hC => r_Fh_free hC hcl hX hT d a1) h
-- FrameHeirs.coldest(I)I
abbrev rm_X5_coldest : Room := { frames := 3, cells := 0, slots := 0, locals := 71 }
theorem dX5_coldest_0 : decode cX5_coldest 0 = .ok (.aload_n 0, 1) := by decide +kernel
theorem dX5_coldest_1 : decode cX5_coldest 1 = .ok (.getfield 38, 3) := by decide +kernel
theorem dX5_coldest_4 : decode cX5_coldest 4 = .ok (.iload_n 1, 1) := by decide +kernel
theorem dX5_coldest_5 : decode cX5_coldest 5 = .ok (.invokevirtual 199, 3) := by decide +kernel
theorem dX5_coldest_8 : decode cX5_coldest 8 = .ok (.ifCond .ne 5, 3) := by decide +kernel
theorem dX5_coldest_11 : decode cX5_coldest 11 = .ok (.iconst (-1), 1) := by decide +kernel
theorem dX5_coldest_12 : decode cX5_coldest 12 = .ok (.ireturn, 1) := by decide +kernel
theorem dX5_coldest_13 : decode cX5_coldest 13 = .ok (.aload_n 0, 1) := by decide +kernel
theorem dX5_coldest_14 : decode cX5_coldest 14 = .ok (.getfield 38, 3) := by decide +kernel
theorem dX5_coldest_17 : decode cX5_coldest 17 = .ok (.getfield 123, 3) := by decide +kernel
theorem dX5_coldest_20 : decode cX5_coldest 20 = .ok (.iload_n 1, 1) := by decide +kernel
theorem dX5_coldest_21 : decode cX5_coldest 21 = .ok (.iconst 0, 1) := by decide +kernel
theorem dX5_coldest_22 : decode cX5_coldest 22 = .ok (.invokevirtual 229, 3) := by decide +kernel
theorem dX5_coldest_25 : decode cX5_coldest 25 = .ok (.istore_n 2, 1) := by decide +kernel
theorem dX5_coldest_26 : decode cX5_coldest 26 = .ok (.iload_n 2, 1) := by decide +kernel
theorem dX5_coldest_27 : decode cX5_coldest 27 = .ok (.ifCond .ge 8, 3) := by decide +kernel
theorem dX5_coldest_30 : decode cX5_coldest 30 = .ok (.bipush (-2), 2) := by decide +kernel
theorem dX5_coldest_32 : decode cX5_coldest 32 = .ok (.goto 15, 3) := by decide +kernel
theorem dX5_coldest_35 : decode cX5_coldest 35 = .ok (.aload_n 0, 1) := by decide +kernel
theorem dX5_coldest_36 : decode cX5_coldest 36 = .ok (.getfield 38, 3) := by decide +kernel
theorem dX5_coldest_39 : decode cX5_coldest 39 = .ok (.getfield 123, 3) := by decide +kernel
theorem dX5_coldest_42 : decode cX5_coldest 42 = .ok (.getfield 233, 3) := by decide +kernel
theorem dX5_coldest_45 : decode cX5_coldest 45 = .ok (.iload_n 2, 1) := by decide +kernel
theorem dX5_coldest_46 : decode cX5_coldest 46 = .ok (.iaload, 1) := by decide +kernel
theorem dX5_coldest_47 : decode cX5_coldest 47 = .ok (.ireturn, 1) := by decide +kernel
def Fh_coldest (d : Mem) (a1 : Int32) : Option Int32 :=
  gref (d 0 0 4) fun u1 =>
  bp (Wo_isSpace d (d u1) a1) fun r2 =>
  if r2 = 0 then
    (some (-1 : Int32))
  else
    (gref (d 0 0 4) fun u3 =>
    bp (De_coldestOf (d u3) a1 (0 : Int32)) fun r4 =>
    bnd r4 fun v2_5 =>
    if 0 ≤ v2_5 then
      (gref (d 0 0 4) fun u6 =>
      if inb v2_5 192 then
      some (d u6 19 (ix v2_5))
      else none)
    else
      (some (-2 : Int32)))
theorem y_X5_coldest : YV yX5_coldest cX5_coldest 3 (some .int) 1 := ⟨q1006, q1007, q1008, q143, by decide +kernel, by decide +kernel, by decide +kernel, by decide +kernel⟩
theorem r_Fh_coldest {C : Cxt} {G : Geo} (hC : Cx C cX5_coldest 3 "FrameHeirs" (some .int) rm_X5_coldest G) (hcl : GCl G) (hX : LXx G) (hT : LSt G) (d : Mem) (a1 : Int32) : Rz C 3 G gm (poP avI (gm d)) 0 [(0, .inr (0, 0)), (1, .inl (.int a1))] [] d (Fh_coldest d a1) := by
  unfold Fh_coldest
  refine z_aload_n (pc := 0) hC 0 rfl 0 rfl dX5_coldest_0 ?_
  refine zg_getW (pc := 1) hC hcl (hX 0 rfl) f_0_4 q435 dX5_coldest_1 (fun u1 hu1 gu1 => ?_)
  refine z_iload_n (pc := 4) hC 1 rfl 1 rfl dX5_coldest_4 ?_
  refine z_piV (pc := 5) (st := []) hC y_X4_isSpace q951 [.inl (.int a1)] rfl (hu1 10 rfl) rfl rfl (lft_p (c_X4_isSpace hC.2.2.2.2.2.2.1 hu1 gu1 hcl)) rfl ⟨rfl, rfl, (Nat.le_of_ble_eq_true rfl), (Nat.le_of_ble_eq_true rfl)⟩ (Nat.le_of_ble_eq_true rfl) dX5_coldest_5 (fun r2 => ?_)
  refine z_if_ne (pc := 8) hC 13 rfl dX5_coldest_8 ?_ ?_
  · refine z_aload_n (pc := 13) hC 0 rfl 0 rfl dX5_coldest_13 ?_
    refine zg_getW (pc := 14) hC hcl (hX 0 rfl) f_0_4 q435 dX5_coldest_14 (fun u3 hu3 gu3 => ?_)
    refine z_getc (pc := 17) hC (hu3 10 rfl) f_10_1 q379 dX5_coldest_17 ?_
    refine z_iload_n (pc := 20) hC 1 rfl 1 rfl dX5_coldest_20 ?_
    refine z_iconst (pc := 21) hC (0 : Int32) rfl dX5_coldest_21 ?_
    refine z_piV (pc := 22) (st := []) hC y_X0_coldestOf q1009 [.inl (.int a1), .inl (.int (0 : Int32))] rfl (hu3 17 rfl) rfl rfl (lft_p (c_X0_coldestOf hC.2.2.2.2.2.2.1 hu3 gu3)) rfl ⟨rfl, rfl, (Nat.le_of_ble_eq_true rfl), (Nat.le_of_ble_eq_true rfl)⟩ (Nat.le_of_ble_eq_true rfl) dX5_coldest_22 (fun r4 => ?_)
    refine z_istore_n (pc := 25) (ls1 := fun v => [(2, .inl (.int v)), (0, .inr (0, 0)), (1, .inl (.int a1))]) hC 2 rfl (by decide) (fun v => rfl) dX5_coldest_25 (fun v2_5 => ?_)
    refine z_iload_n (pc := 26) hC 2 rfl 0 rfl dX5_coldest_26 ?_
    refine z_if_ge (pc := 27) hC 35 rfl dX5_coldest_27 ?_ ?_
    · refine z_aload_n (pc := 35) hC 0 rfl 1 rfl dX5_coldest_35 ?_
      refine zg_getW (pc := 36) hC hcl (hX 0 rfl) f_0_4 q435 dX5_coldest_36 (fun u6 hu6 gu6 => ?_)
      refine z_getc (pc := 39) hC (hu6 10 rfl) f_10_1 q379 dX5_coldest_39 ?_
      refine z_getc (pc := 42) hC (hu6 17 rfl) f_17_1 q298 dX5_coldest_42 ?_
      refine z_iload_n (pc := 45) hC 2 rfl 0 rfl dX5_coldest_45 ?_
      refine zg_iald (pc := 46) hC (hu6 19 rfl) rfl dX5_coldest_46 ?_
      exact z_iret (pc := 47) hC rfl dX5_coldest_47
    · refine z_bipush (pc := 30) hC (-2 : Int32) rfl dX5_coldest_30 ?_
      refine z_goto (pc := 32) hC 47 rfl dX5_coldest_32 ?_
      exact z_iret (pc := 47) hC rfl dX5_coldest_47
  · refine z_iconst (pc := 11) hC (-1 : Int32) rfl dX5_coldest_11 ?_
    exact z_iret (pc := 12) hC rfl dX5_coldest_12
theorem c_X5_coldest {G : Geo} (hG : GOk G) (hcl : GCl G) (hX : LXx G) (hT : LSt G) {d : Mem} {a1 : Int32} (l : Launch) (r : Int32) (h : Fh_coldest d a1 = some r) : Mt l yX5_coldest cX5_coldest 3 (some .int) rm_X5_coldest G [.inr (0, 0), .inl (.int a1)] (gm d) (avI r) (gm d) :=
  mt_of (mem := gm) (po := poP avI (gm d)) (x0 := d) (t := r) rfl hG [.inr (0, 0), .inl (.int a1)] (Nat.le_of_ble_eq_true rfl) rfl (fun C hC => r_Fh_coldest hC hcl hX hT d a1) h
-- FrameHeirs.age(II)I
abbrev rm_X5_age : Room := { frames := 2, cells := 0, slots := 0, locals := 43 }
theorem dX5_age_0 : decode cX5_age 0 = .ok (.aload_n 0, 1) := by decide +kernel
theorem dX5_age_1 : decode cX5_age 1 = .ok (.getfield 38, 3) := by decide +kernel
theorem dX5_age_4 : decode cX5_age 4 = .ok (.iload_n 1, 1) := by decide +kernel
theorem dX5_age_5 : decode cX5_age 5 = .ok (.iload_n 2, 1) := by decide +kernel
theorem dX5_age_6 : decode cX5_age 6 = .ok (.invokevirtual 156, 3) := by decide +kernel
theorem dX5_age_9 : decode cX5_age 9 = .ok (.ifCond .ne 5, 3) := by decide +kernel
theorem dX5_age_12 : decode cX5_age 12 = .ok (.iconst (-1), 1) := by decide +kernel
theorem dX5_age_13 : decode cX5_age 13 = .ok (.ireturn, 1) := by decide +kernel
theorem dX5_age_14 : decode cX5_age 14 = .ok (.aload_n 0, 1) := by decide +kernel
theorem dX5_age_15 : decode cX5_age 15 = .ok (.getfield 38, 3) := by decide +kernel
theorem dX5_age_18 : decode cX5_age 18 = .ok (.getfield 123, 3) := by decide +kernel
theorem dX5_age_21 : decode cX5_age 21 = .ok (.iload_n 1, 1) := by decide +kernel
theorem dX5_age_22 : decode cX5_age 22 = .ok (.iload_n 2, 1) := by decide +kernel
theorem dX5_age_23 : decode cX5_age 23 = .ok (.invokevirtual 172, 3) := by decide +kernel
theorem dX5_age_26 : decode cX5_age 26 = .ok (.istore_n 3, 1) := by decide +kernel
theorem dX5_age_27 : decode cX5_age 27 = .ok (.iload_n 3, 1) := by decide +kernel
theorem dX5_age_28 : decode cX5_age 28 = .ok (.ifCond .ge 8, 3) := by decide +kernel
theorem dX5_age_31 : decode cX5_age 31 = .ok (.bipush (-2), 2) := by decide +kernel
theorem dX5_age_33 : decode cX5_age 33 = .ok (.goto 18, 3) := by decide +kernel
theorem dX5_age_36 : decode cX5_age 36 = .ok (.aload_n 0, 1) := by decide +kernel
theorem dX5_age_37 : decode cX5_age 37 = .ok (.getfield 38, 3) := by decide +kernel
theorem dX5_age_40 : decode cX5_age 40 = .ok (.getfield 123, 3) := by decide +kernel
theorem dX5_age_43 : decode cX5_age 43 = .ok (.getfield 236, 3) := by decide +kernel
theorem dX5_age_46 : decode cX5_age 46 = .ok (.iload_n 3, 1) := by decide +kernel
theorem dX5_age_47 : decode cX5_age 47 = .ok (.faload, 1) := by decide +kernel
theorem dX5_age_48 : decode cX5_age 48 = .ok (.invokestatic 240, 3) := by decide +kernel
theorem dX5_age_51 : decode cX5_age 51 = .ok (.ireturn, 1) := by decide +kernel
def Fh_age (d : Mem) (a1 : Int32) (a2 : Int32) : Option Int32 :=
  gref (d 0 0 4) fun u1 =>
  bp (Wo_isPlace d (d u1) a1 a2) fun r2 =>
  if r2 = 0 then
    (some (-1 : Int32))
  else
    (gref (d 0 0 4) fun u3 =>
    bp (De_find (d u3) a1 a2) fun r4 =>
    bnd r4 fun v3_5 =>
    if 0 ≤ v3_5 then
      (gref (d 0 0 4) fun u6 =>
      if inb v3_5 192 then
      bp (Fh_bitsOf ((d u6 31 (ix v3_5)).toUInt32)) fun r7 =>
      some r7
      else none)
    else
      (some (-2 : Int32)))
theorem y_X5_age : YV yX5_age cX5_age 4 (some .int) 2 := ⟨q1011, q1012, q1013, q143, by decide +kernel, by decide +kernel, by decide +kernel, by decide +kernel⟩
theorem r_Fh_age {C : Cxt} {G : Geo} (hC : Cx C cX5_age 4 "FrameHeirs" (some .int) rm_X5_age G) (hcl : GCl G) (hX : LXx G) (hT : LSt G) (d : Mem) (a1 : Int32) (a2 : Int32) : Rz C 4 G gm (poP avI (gm d)) 0 [(0, .inr (0, 0)), (1, .inl (.int a1)), (2, .inl (.int a2))] [] d (Fh_age d a1 a2) := by
  unfold Fh_age
  refine z_aload_n (pc := 0) hC 0 rfl 0 rfl dX5_age_0 ?_
  refine zg_getW (pc := 1) hC hcl (hX 0 rfl) f_0_4 q435 dX5_age_1 (fun u1 hu1 gu1 => ?_)
  refine z_iload_n (pc := 4) hC 1 rfl 1 rfl dX5_age_4 ?_
  refine z_iload_n (pc := 5) hC 2 rfl 2 rfl dX5_age_5 ?_
  refine z_piV (pc := 6) (st := []) hC y_X4_isPlace q921 [.inl (.int a1), .inl (.int a2)] rfl (hu1 10 rfl) rfl rfl (lft_p (c_X4_isPlace hC.2.2.2.2.2.2.1 hu1 gu1 hcl)) rfl ⟨rfl, rfl, (Nat.le_of_ble_eq_true rfl), (Nat.le_of_ble_eq_true rfl)⟩ (Nat.le_of_ble_eq_true rfl) dX5_age_6 (fun r2 => ?_)
  refine z_if_ne (pc := 9) hC 14 rfl dX5_age_9 ?_ ?_
  · refine z_aload_n (pc := 14) hC 0 rfl 0 rfl dX5_age_14 ?_
    refine zg_getW (pc := 15) hC hcl (hX 0 rfl) f_0_4 q435 dX5_age_15 (fun u3 hu3 gu3 => ?_)
    refine z_getc (pc := 18) hC (hu3 10 rfl) f_10_1 q379 dX5_age_18 ?_
    refine z_iload_n (pc := 21) hC 1 rfl 1 rfl dX5_age_21 ?_
    refine z_iload_n (pc := 22) hC 2 rfl 2 rfl dX5_age_22 ?_
    refine z_piV (pc := 23) (st := []) hC y_X0_find q1014 [.inl (.int a1), .inl (.int a2)] rfl (hu3 17 rfl) rfl rfl (lft_p (c_X0_find hC.2.2.2.2.2.2.1 hu3 gu3)) rfl ⟨rfl, rfl, (Nat.le_of_ble_eq_true rfl), (Nat.le_of_ble_eq_true rfl)⟩ (Nat.le_of_ble_eq_true rfl) dX5_age_23 (fun r4 => ?_)
    refine z_istore_n (pc := 26) (ls1 := fun v => [(3, .inl (.int v)), (0, .inr (0, 0)), (1, .inl (.int a1)), (2, .inl (.int a2))]) hC 3 rfl (by decide) (fun v => rfl) dX5_age_26 (fun v3_5 => ?_)
    refine z_iload_n (pc := 27) hC 3 rfl 0 rfl dX5_age_27 ?_
    refine z_if_ge (pc := 28) hC 36 rfl dX5_age_28 ?_ ?_
    · refine z_aload_n (pc := 36) hC 0 rfl 1 rfl dX5_age_36 ?_
      refine zg_getW (pc := 37) hC hcl (hX 0 rfl) f_0_4 q435 dX5_age_37 (fun u6 hu6 gu6 => ?_)
      refine z_getc (pc := 40) hC (hu6 10 rfl) f_10_1 q379 dX5_age_40 ?_
      refine z_getc (pc := 43) hC (hu6 17 rfl) f_17_13 q323 dX5_age_43 ?_
      refine z_iload_n (pc := 46) hC 3 rfl 0 rfl dX5_age_46 ?_
      refine zg_fald (pc := 47) hC (hu6 31 rfl) rfl dX5_age_47 ?_
      refine z_piS (pc := 48) (st := []) hC y_X5_bitsOf q1015 [.inl (.float ((d u6 31 (ix v3_5)).toUInt32))] rfl (c_X5_bitsOf hC.2.2.2.2.2.2.1) rfl ⟨rfl, rfl, (Nat.le_of_ble_eq_true rfl), (Nat.le_of_ble_eq_true rfl)⟩ (Nat.le_of_ble_eq_true rfl) dX5_age_48 (fun r7 => ?_)
      exact z_iret (pc := 51) hC rfl dX5_age_51
    · refine z_bipush (pc := 31) hC (-2 : Int32) rfl dX5_age_31 ?_
      refine z_goto (pc := 33) hC 51 rfl dX5_age_33 ?_
      exact z_iret (pc := 51) hC rfl dX5_age_51
  · refine z_iconst (pc := 12) hC (-1 : Int32) rfl dX5_age_12 ?_
    exact z_iret (pc := 13) hC rfl dX5_age_13
theorem c_X5_age {G : Geo} (hG : GOk G) (hcl : GCl G) (hX : LXx G) (hT : LSt G) {d : Mem} {a1 : Int32} {a2 : Int32} (l : Launch) (r : Int32) (h : Fh_age d a1 a2 = some r) : Mt l yX5_age cX5_age 4 (some .int) rm_X5_age G [.inr (0, 0), .inl (.int a1), .inl (.int a2)] (gm d) (avI r) (gm d) :=
  mt_of (mem := gm) (po := poP avI (gm d)) (x0 := d) (t := r) rfl hG [.inr (0, 0), .inl (.int a1), .inl (.int a2)] (Nat.le_of_ble_eq_true rfl) rfl (fun C hC => r_Fh_age hC hcl hX hT d a1 a2) h
-- FrameHeirs.warmth(I)I
abbrev rm_X5_warmth : Room := { frames := 2, cells := 0, slots := 0, locals := 48 }
theorem dX5_warmth_0 : decode cX5_warmth 0 = .ok (.aload_n 0, 1) := by decide +kernel
theorem dX5_warmth_1 : decode cX5_warmth 1 = .ok (.getfield 38, 3) := by decide +kernel
theorem dX5_warmth_4 : decode cX5_warmth 4 = .ok (.iload_n 1, 1) := by decide +kernel
theorem dX5_warmth_5 : decode cX5_warmth 5 = .ok (.invokevirtual 199, 3) := by decide +kernel
theorem dX5_warmth_8 : decode cX5_warmth 8 = .ok (.ifCond .eq 20, 3) := by decide +kernel
theorem dX5_warmth_11 : decode cX5_warmth 11 = .ok (.aload_n 0, 1) := by decide +kernel
theorem dX5_warmth_12 : decode cX5_warmth 12 = .ok (.getfield 38, 3) := by decide +kernel
theorem dX5_warmth_15 : decode cX5_warmth 15 = .ok (.getfield 123, 3) := by decide +kernel
theorem dX5_warmth_18 : decode cX5_warmth 18 = .ok (.iload_n 1, 1) := by decide +kernel
theorem dX5_warmth_19 : decode cX5_warmth 19 = .ok (.invokevirtual 244, 3) := by decide +kernel
theorem dX5_warmth_22 : decode cX5_warmth 22 = .ok (.invokestatic 240, 3) := by decide +kernel
theorem dX5_warmth_25 : decode cX5_warmth 25 = .ok (.goto 4, 3) := by decide +kernel
theorem dX5_warmth_28 : decode cX5_warmth 28 = .ok (.iconst (-1), 1) := by decide +kernel
theorem dX5_warmth_29 : decode cX5_warmth 29 = .ok (.ireturn, 1) := by decide +kernel
def Fh_warmth (d : Mem) (a1 : Int32) : Option Int32 :=
  gref (d 0 0 4) fun u1 =>
  bp (Wo_isSpace d (d u1) a1) fun r2 =>
  if r2 = 0 then
    (some (-1 : Int32))
  else
    (gref (d 0 0 4) fun u3 =>
    bp (De_warmthOf (d u3) a1) fun r4 =>
    bp (Fh_bitsOf r4) fun r5 =>
    some r5)
theorem y_X5_warmth : YV yX5_warmth cX5_warmth 2 (some .int) 1 := ⟨q1023, q1024, q1025, q143, by decide +kernel, by decide +kernel, by decide +kernel, by decide +kernel⟩
theorem r_Fh_warmth {C : Cxt} {G : Geo} (hC : Cx C cX5_warmth 2 "FrameHeirs" (some .int) rm_X5_warmth G) (hcl : GCl G) (hX : LXx G) (hT : LSt G) (d : Mem) (a1 : Int32) : Rz C 2 G gm (poP avI (gm d)) 0 [(0, .inr (0, 0)), (1, .inl (.int a1))] [] d (Fh_warmth d a1) := by
  unfold Fh_warmth
  refine z_aload_n (pc := 0) hC 0 rfl 0 rfl dX5_warmth_0 ?_
  refine zg_getW (pc := 1) hC hcl (hX 0 rfl) f_0_4 q435 dX5_warmth_1 (fun u1 hu1 gu1 => ?_)
  refine z_iload_n (pc := 4) hC 1 rfl 1 rfl dX5_warmth_4 ?_
  refine z_piV (pc := 5) (st := []) hC y_X4_isSpace q951 [.inl (.int a1)] rfl (hu1 10 rfl) rfl rfl (lft_p (c_X4_isSpace hC.2.2.2.2.2.2.1 hu1 gu1 hcl)) rfl ⟨rfl, rfl, (Nat.le_of_ble_eq_true rfl), (Nat.le_of_ble_eq_true rfl)⟩ (Nat.le_of_ble_eq_true rfl) dX5_warmth_5 (fun r2 => ?_)
  refine z_if_eq (pc := 8) hC 28 rfl dX5_warmth_8 ?_ ?_
  · refine z_iconst (pc := 28) hC (-1 : Int32) rfl dX5_warmth_28 ?_
    exact z_iret (pc := 29) hC rfl dX5_warmth_29
  · refine z_aload_n (pc := 11) hC 0 rfl 0 rfl dX5_warmth_11 ?_
    refine zg_getW (pc := 12) hC hcl (hX 0 rfl) f_0_4 q435 dX5_warmth_12 (fun u3 hu3 gu3 => ?_)
    refine z_getc (pc := 15) hC (hu3 10 rfl) f_10_1 q379 dX5_warmth_15 ?_
    refine z_iload_n (pc := 18) hC 1 rfl 1 rfl dX5_warmth_18 ?_
    refine z_pfV (pc := 19) (st := []) hC y_X0_warmthOf q1026 [.inl (.int a1)] rfl (hu3 17 rfl) rfl rfl (lft_p (c_X0_warmthOf hC.2.2.2.2.2.2.1 hu3 gu3)) rfl ⟨rfl, rfl, (Nat.le_of_ble_eq_true rfl), (Nat.le_of_ble_eq_true rfl)⟩ (Nat.le_of_ble_eq_true rfl) dX5_warmth_19 (fun r4 => ?_)
    refine z_piS (pc := 22) (st := []) hC y_X5_bitsOf q1015 [.inl (.float r4)] rfl (c_X5_bitsOf hC.2.2.2.2.2.2.1) rfl ⟨rfl, rfl, (Nat.le_of_ble_eq_true rfl), (Nat.le_of_ble_eq_true rfl)⟩ (Nat.le_of_ble_eq_true rfl) dX5_warmth_22 (fun r5 => ?_)
    refine z_goto (pc := 25) hC 29 rfl dX5_warmth_25 ?_
    exact z_iret (pc := 29) hC rfl dX5_warmth_29
theorem c_X5_warmth {G : Geo} (hG : GOk G) (hcl : GCl G) (hX : LXx G) (hT : LSt G) {d : Mem} {a1 : Int32} (l : Launch) (r : Int32) (h : Fh_warmth d a1 = some r) : Mt l yX5_warmth cX5_warmth 2 (some .int) rm_X5_warmth G [.inr (0, 0), .inl (.int a1)] (gm d) (avI r) (gm d) :=
  mt_of (mem := gm) (po := poP avI (gm d)) (x0 := d) (t := r) rfl hG [.inr (0, 0), .inl (.int a1)] (Nat.le_of_ble_eq_true rfl) rfl (fun C hC => r_Fh_warmth hC hcl hX hT d a1) h
-- FrameHeirs.ratio(II)I
abbrev rm_X5_ratio : Room := { frames := 2, cells := 0, slots := 0, locals := 48 }
theorem dX5_ratio_0 : decode cX5_ratio 0 = .ok (.aload_n 0, 1) := by decide +kernel
theorem dX5_ratio_1 : decode cX5_ratio 1 = .ok (.getfield 38, 3) := by decide +kernel
theorem dX5_ratio_4 : decode cX5_ratio 4 = .ok (.iload_n 1, 1) := by decide +kernel
theorem dX5_ratio_5 : decode cX5_ratio 5 = .ok (.invokevirtual 199, 3) := by decide +kernel
theorem dX5_ratio_8 : decode cX5_ratio 8 = .ok (.ifCond .eq 14, 3) := by decide +kernel
theorem dX5_ratio_11 : decode cX5_ratio 11 = .ok (.aload_n 0, 1) := by decide +kernel
theorem dX5_ratio_12 : decode cX5_ratio 12 = .ok (.getfield 38, 3) := by decide +kernel
theorem dX5_ratio_15 : decode cX5_ratio 15 = .ok (.iload_n 2, 1) := by decide +kernel
theorem dX5_ratio_16 : decode cX5_ratio 16 = .ok (.invokevirtual 199, 3) := by decide +kernel
theorem dX5_ratio_19 : decode cX5_ratio 19 = .ok (.ifCond .ne 5, 3) := by decide +kernel
theorem dX5_ratio_22 : decode cX5_ratio 22 = .ok (.iconst (-1), 1) := by decide +kernel
theorem dX5_ratio_23 : decode cX5_ratio 23 = .ok (.ireturn, 1) := by decide +kernel
theorem dX5_ratio_24 : decode cX5_ratio 24 = .ok (.aload_n 0, 1) := by decide +kernel
theorem dX5_ratio_25 : decode cX5_ratio 25 = .ok (.getfield 38, 3) := by decide +kernel
theorem dX5_ratio_28 : decode cX5_ratio 28 = .ok (.getfield 123, 3) := by decide +kernel
theorem dX5_ratio_31 : decode cX5_ratio 31 = .ok (.iload_n 2, 1) := by decide +kernel
theorem dX5_ratio_32 : decode cX5_ratio 32 = .ok (.invokevirtual 244, 3) := by decide +kernel
theorem dX5_ratio_35 : decode cX5_ratio 35 = .ok (.fstore_n 3, 1) := by decide +kernel
theorem dX5_ratio_36 : decode cX5_ratio 36 = .ok (.fload_n 3, 1) := by decide +kernel
theorem dX5_ratio_37 : decode cX5_ratio 37 = .ok (.fconst 0, 1) := by decide +kernel
theorem dX5_ratio_38 : decode cX5_ratio 38 = .ok (.fcmp .l, 1) := by decide +kernel
theorem dX5_ratio_39 : decode cX5_ratio 39 = .ok (.ifCond .gt 6, 3) := by decide +kernel
theorem dX5_ratio_42 : decode cX5_ratio 42 = .ok (.bipush (-2), 2) := by decide +kernel
theorem dX5_ratio_44 : decode cX5_ratio 44 = .ok (.ireturn, 1) := by decide +kernel
theorem dX5_ratio_45 : decode cX5_ratio 45 = .ok (.aload_n 0, 1) := by decide +kernel
theorem dX5_ratio_46 : decode cX5_ratio 46 = .ok (.getfield 38, 3) := by decide +kernel
theorem dX5_ratio_49 : decode cX5_ratio 49 = .ok (.getfield 123, 3) := by decide +kernel
theorem dX5_ratio_52 : decode cX5_ratio 52 = .ok (.iload_n 1, 1) := by decide +kernel
theorem dX5_ratio_53 : decode cX5_ratio 53 = .ok (.invokevirtual 244, 3) := by decide +kernel
theorem dX5_ratio_56 : decode cX5_ratio 56 = .ok (.ldc 248, 2) := by decide +kernel
theorem dX5_ratio_58 : decode cX5_ratio 58 = .ok (.fmul, 1) := by decide +kernel
theorem dX5_ratio_59 : decode cX5_ratio 59 = .ok (.fstore 4, 2) := by decide +kernel
theorem dX5_ratio_61 : decode cX5_ratio 61 = .ok (.fload 4, 2) := by decide +kernel
theorem dX5_ratio_63 : decode cX5_ratio 63 = .ok (.fload_n 3, 1) := by decide +kernel
theorem dX5_ratio_64 : decode cX5_ratio 64 = .ok (.fdiv, 1) := by decide +kernel
theorem dX5_ratio_65 : decode cX5_ratio 65 = .ok (.fstore 5, 2) := by decide +kernel
theorem dX5_ratio_67 : decode cX5_ratio 67 = .ok (.fload 5, 2) := by decide +kernel
theorem dX5_ratio_69 : decode cX5_ratio 69 = .ok (.ldc 249, 2) := by decide +kernel
theorem dX5_ratio_71 : decode cX5_ratio 71 = .ok (.fcmp .l, 1) := by decide +kernel
theorem dX5_ratio_72 : decode cX5_ratio 72 = .ok (.ifCond .lt 8, 3) := by decide +kernel
theorem dX5_ratio_75 : decode cX5_ratio 75 = .ok (.ldc 250, 2) := by decide +kernel
theorem dX5_ratio_77 : decode cX5_ratio 77 = .ok (.goto 6, 3) := by decide +kernel
theorem dX5_ratio_80 : decode cX5_ratio 80 = .ok (.fload 5, 2) := by decide +kernel
theorem dX5_ratio_82 : decode cX5_ratio 82 = .ok (.f2i, 1) := by decide +kernel
theorem dX5_ratio_83 : decode cX5_ratio 83 = .ok (.ireturn, 1) := by decide +kernel
def Fh_ratio (d : Mem) (a1 : Int32) (a2 : Int32) : Option Int32 :=
  gref (d 0 0 4) fun u1 =>
  bp (Wo_isSpace d (d u1) a1) fun r2 =>
  if r2 = 0 then
    (some (-1 : Int32))
  else
    (gref (d 0 0 4) fun u3 =>
    bp (Wo_isSpace d (d u3) a2) fun r4 =>
    if r4 = 0 then
      (some (-1 : Int32))
    else
      (gref (d 0 0 4) fun u5 =>
      bp (De_warmthOf (d u5) a2) fun r6 =>
      bnd r6 fun v3_7 =>
      if 0 < (Op.cmpValue (FP.fcmp v3_7 FP.fconst0) .l) then
        (gref (d 0 0 4) fun u8 =>
        bp (De_warmthOf (d u8) a1) fun r9 =>
        if nn32 (FP.fmul r9 (1120403456 : UInt32)) then
        bnd (FP.fmul r9 (1120403456 : UInt32)) fun v4_10 =>
        if nn32 (FP.fdiv v4_10 v3_7) then
        bnd (FP.fdiv v4_10 v3_7) fun v5_11 =>
        if (Op.cmpValue (FP.fcmp v5_11 (1325400064 : UInt32)) .l) < 0 then
          (some (FP.f2i v5_11))
        else
          (some (2147483647 : Int32))
        else none
        else none)
      else
        (some (-2 : Int32))))
theorem y_X5_ratio : YV yX5_ratio cX5_ratio 6 (some .int) 2 := ⟨q1031, q1032, q1033, q143, by decide +kernel, by decide +kernel, by decide +kernel, by decide +kernel⟩
theorem r_Fh_ratio {C : Cxt} {G : Geo} (hC : Cx C cX5_ratio 6 "FrameHeirs" (some .int) rm_X5_ratio G) (hcl : GCl G) (hX : LXx G) (hT : LSt G) (d : Mem) (a1 : Int32) (a2 : Int32) : Rz C 6 G gm (poP avI (gm d)) 0 [(0, .inr (0, 0)), (1, .inl (.int a1)), (2, .inl (.int a2))] [] d (Fh_ratio d a1 a2) := by
  unfold Fh_ratio
  refine z_aload_n (pc := 0) hC 0 rfl 0 rfl dX5_ratio_0 ?_
  refine zg_getW (pc := 1) hC hcl (hX 0 rfl) f_0_4 q435 dX5_ratio_1 (fun u1 hu1 gu1 => ?_)
  refine z_iload_n (pc := 4) hC 1 rfl 1 rfl dX5_ratio_4 ?_
  refine z_piV (pc := 5) (st := []) hC y_X4_isSpace q951 [.inl (.int a1)] rfl (hu1 10 rfl) rfl rfl (lft_p (c_X4_isSpace hC.2.2.2.2.2.2.1 hu1 gu1 hcl)) rfl ⟨rfl, rfl, (Nat.le_of_ble_eq_true rfl), (Nat.le_of_ble_eq_true rfl)⟩ (Nat.le_of_ble_eq_true rfl) dX5_ratio_5 (fun r2 => ?_)
  refine z_if_eq (pc := 8) hC 22 rfl dX5_ratio_8 ?_ ?_
  · refine z_iconst (pc := 22) hC (-1 : Int32) rfl dX5_ratio_22 ?_
    exact z_iret (pc := 23) hC rfl dX5_ratio_23
  · refine z_aload_n (pc := 11) hC 0 rfl 0 rfl dX5_ratio_11 ?_
    refine zg_getW (pc := 12) hC hcl (hX 0 rfl) f_0_4 q435 dX5_ratio_12 (fun u3 hu3 gu3 => ?_)
    refine z_iload_n (pc := 15) hC 2 rfl 2 rfl dX5_ratio_15 ?_
    refine z_piV (pc := 16) (st := []) hC y_X4_isSpace q951 [.inl (.int a2)] rfl (hu3 10 rfl) rfl rfl (lft_p (c_X4_isSpace hC.2.2.2.2.2.2.1 hu3 gu3 hcl)) rfl ⟨rfl, rfl, (Nat.le_of_ble_eq_true rfl), (Nat.le_of_ble_eq_true rfl)⟩ (Nat.le_of_ble_eq_true rfl) dX5_ratio_16 (fun r4 => ?_)
    refine z_if_ne (pc := 19) hC 24 rfl dX5_ratio_19 ?_ ?_
    · refine z_aload_n (pc := 24) hC 0 rfl 0 rfl dX5_ratio_24 ?_
      refine zg_getW (pc := 25) hC hcl (hX 0 rfl) f_0_4 q435 dX5_ratio_25 (fun u5 hu5 gu5 => ?_)
      refine z_getc (pc := 28) hC (hu5 10 rfl) f_10_1 q379 dX5_ratio_28 ?_
      refine z_iload_n (pc := 31) hC 2 rfl 2 rfl dX5_ratio_31 ?_
      refine z_pfV (pc := 32) (st := []) hC y_X0_warmthOf q1026 [.inl (.int a2)] rfl (hu5 17 rfl) rfl rfl (lft_p (c_X0_warmthOf hC.2.2.2.2.2.2.1 hu5 gu5)) rfl ⟨rfl, rfl, (Nat.le_of_ble_eq_true rfl), (Nat.le_of_ble_eq_true rfl)⟩ (Nat.le_of_ble_eq_true rfl) dX5_ratio_32 (fun r6 => ?_)
      refine z_fstore_n (pc := 35) (ls1 := fun v => [(3, .inl (.float v)), (0, .inr (0, 0)), (1, .inl (.int a1)), (2, .inl (.int a2))]) hC 3 rfl (by decide) (fun v => rfl) dX5_ratio_35 (fun v3_7 => ?_)
      refine z_fload_n (pc := 36) hC 3 rfl 0 rfl dX5_ratio_36 ?_
      refine z_fconst0 (pc := 37) hC dX5_ratio_37 ?_
      refine z_fcmp (pc := 38) hC dX5_ratio_38 ?_
      refine z_if_gt (pc := 39) hC 45 rfl dX5_ratio_39 ?_ ?_
      · refine z_aload_n (pc := 45) hC 0 rfl 1 rfl dX5_ratio_45 ?_
        refine zg_getW (pc := 46) hC hcl (hX 0 rfl) f_0_4 q435 dX5_ratio_46 (fun u8 hu8 gu8 => ?_)
        refine z_getc (pc := 49) hC (hu8 10 rfl) f_10_1 q379 dX5_ratio_49 ?_
        refine z_iload_n (pc := 52) hC 1 rfl 2 rfl dX5_ratio_52 ?_
        refine z_pfV (pc := 53) (st := []) hC y_X0_warmthOf q1026 [.inl (.int a1)] rfl (hu8 17 rfl) rfl rfl (lft_p (c_X0_warmthOf hC.2.2.2.2.2.2.1 hu8 gu8)) rfl ⟨rfl, rfl, (Nat.le_of_ble_eq_true rfl), (Nat.le_of_ble_eq_true rfl)⟩ (Nat.le_of_ble_eq_true rfl) dX5_ratio_53 (fun r9 => ?_)
        refine z_ldcf (pc := 56) hC (1120403456 : UInt32) q1034 dX5_ratio_56 ?_
        refine z_fmul (pc := 58) hC dX5_ratio_58 ?_
        refine z_fstore (pc := 59) (ls1 := fun v => [(4, .inl (.float v)), (3, .inl (.float v3_7)), (0, .inr (0, 0)), (1, .inl (.int a1)), (2, .inl (.int a2))]) hC 4 (by decide) (fun v => rfl) dX5_ratio_59 (fun v4_10 => ?_)
        refine z_fload (pc := 61) hC 4 0 rfl dX5_ratio_61 ?_
        refine z_fload_n (pc := 63) hC 3 rfl 1 rfl dX5_ratio_63 ?_
        refine z_fdiv (pc := 64) hC dX5_ratio_64 ?_
        refine z_fstore (pc := 65) (ls1 := fun v => [(5, .inl (.float v)), (4, .inl (.float v4_10)), (3, .inl (.float v3_7)), (0, .inr (0, 0)), (1, .inl (.int a1)), (2, .inl (.int a2))]) hC 5 (by decide) (fun v => rfl) dX5_ratio_65 (fun v5_11 => ?_)
        refine z_fload (pc := 67) hC 5 0 rfl dX5_ratio_67 ?_
        refine z_ldcf (pc := 69) hC (1325400064 : UInt32) q1035 dX5_ratio_69 ?_
        refine z_fcmp (pc := 71) hC dX5_ratio_71 ?_
        refine z_if_lt (pc := 72) hC 80 rfl dX5_ratio_72 ?_ ?_
        · refine z_fload (pc := 80) hC 5 0 rfl dX5_ratio_80 ?_
          refine z_f2i (pc := 82) hC dX5_ratio_82 ?_
          exact z_iret (pc := 83) hC rfl dX5_ratio_83
        · refine z_ldc (pc := 75) hC (2147483647 : Int32) q1036 dX5_ratio_75 ?_
          refine z_goto (pc := 77) hC 83 rfl dX5_ratio_77 ?_
          exact z_iret (pc := 83) hC rfl dX5_ratio_83
      · refine z_bipush (pc := 42) hC (-2 : Int32) rfl dX5_ratio_42 ?_
        exact z_iret (pc := 44) hC rfl dX5_ratio_44
    · refine z_iconst (pc := 22) hC (-1 : Int32) rfl dX5_ratio_22 ?_
      exact z_iret (pc := 23) hC rfl dX5_ratio_23
theorem c_X5_ratio {G : Geo} (hG : GOk G) (hcl : GCl G) (hX : LXx G) (hT : LSt G) {d : Mem} {a1 : Int32} {a2 : Int32} (l : Launch) (r : Int32) (h : Fh_ratio d a1 a2 = some r) : Mt l yX5_ratio cX5_ratio 6 (some .int) rm_X5_ratio G [.inr (0, 0), .inl (.int a1), .inl (.int a2)] (gm d) (avI r) (gm d) :=
  mt_of (mem := gm) (po := poP avI (gm d)) (x0 := d) (t := r) rfl hG [.inr (0, 0), .inl (.int a1), .inl (.int a2)] (Nat.le_of_ble_eq_true rfl) rfl (fun C hC => r_Fh_ratio hC hcl hX hT d a1 a2) h
-- FrameHeirs.cool(I)I
abbrev rm_X5_cool : Room := { frames := 3, cells := 0, slots := 0, locals := 82 }
theorem dX5_cool_0 : decode cX5_cool 0 = .ok (.aload_n 0, 1) := by decide +kernel
theorem dX5_cool_1 : decode cX5_cool 1 = .ok (.getfield 38, 3) := by decide +kernel
theorem dX5_cool_4 : decode cX5_cool 4 = .ok (.iload_n 1, 1) := by decide +kernel
theorem dX5_cool_5 : decode cX5_cool 5 = .ok (.invokevirtual 199, 3) := by decide +kernel
theorem dX5_cool_8 : decode cX5_cool 8 = .ok (.ifCond .ne 5, 3) := by decide +kernel
theorem dX5_cool_11 : decode cX5_cool 11 = .ok (.iconst (-1), 1) := by decide +kernel
theorem dX5_cool_12 : decode cX5_cool 12 = .ok (.ireturn, 1) := by decide +kernel
theorem dX5_cool_13 : decode cX5_cool 13 = .ok (.aload_n 0, 1) := by decide +kernel
theorem dX5_cool_14 : decode cX5_cool 14 = .ok (.getfield 48, 3) := by decide +kernel
theorem dX5_cool_17 : decode cX5_cool 17 = .ok (.aload_n 0, 1) := by decide +kernel
theorem dX5_cool_18 : decode cX5_cool 18 = .ok (.getfield 38, 3) := by decide +kernel
theorem dX5_cool_21 : decode cX5_cool 21 = .ok (.invokevirtual 251, 3) := by decide +kernel
theorem dX5_cool_24 : decode cX5_cool 24 = .ok (.iconst 0, 1) := by decide +kernel
theorem dX5_cool_25 : decode cX5_cool 25 = .ok (.istore_n 2, 1) := by decide +kernel
theorem dX5_cool_26 : decode cX5_cool 26 = .ok (.iload_n 2, 1) := by decide +kernel
theorem dX5_cool_27 : decode cX5_cool 27 = .ok (.bipush 99, 2) := by decide +kernel
theorem dX5_cool_29 : decode cX5_cool 29 = .ok (.if_icmp .gt 47, 3) := by decide +kernel
theorem dX5_cool_32 : decode cX5_cool 32 = .ok (.aload_n 0, 1) := by decide +kernel
theorem dX5_cool_33 : decode cX5_cool 33 = .ok (.getfield 48, 3) := by decide +kernel
theorem dX5_cool_36 : decode cX5_cool 36 = .ok (.getfield 123, 3) := by decide +kernel
theorem dX5_cool_39 : decode cX5_cool 39 = .ok (.iload_n 1, 1) := by decide +kernel
theorem dX5_cool_40 : decode cX5_cool 40 = .ok (.invokevirtual 244, 3) := by decide +kernel
theorem dX5_cool_43 : decode cX5_cool 43 = .ok (.fconst 1, 1) := by decide +kernel
theorem dX5_cool_44 : decode cX5_cool 44 = .ok (.fcmp .g, 1) := by decide +kernel
theorem dX5_cool_45 : decode cX5_cool 45 = .ok (.ifCond .ge 5, 3) := by decide +kernel
theorem dX5_cool_48 : decode cX5_cool 48 = .ok (.iload_n 2, 1) := by decide +kernel
theorem dX5_cool_49 : decode cX5_cool 49 = .ok (.ireturn, 1) := by decide +kernel
theorem dX5_cool_50 : decode cX5_cool 50 = .ok (.aload_n 0, 1) := by decide +kernel
theorem dX5_cool_51 : decode cX5_cool 51 = .ok (.getfield 48, 3) := by decide +kernel
theorem dX5_cool_54 : decode cX5_cool 54 = .ok (.getfield 123, 3) := by decide +kernel
theorem dX5_cool_57 : decode cX5_cool 57 = .ok (.aload_n 0, 1) := by decide +kernel
theorem dX5_cool_58 : decode cX5_cool 58 = .ok (.getfield 48, 3) := by decide +kernel
theorem dX5_cool_61 : decode cX5_cool 61 = .ok (.getfield 42, 3) := by decide +kernel
theorem dX5_cool_64 : decode cX5_cool 64 = .ok (.getfield 127, 3) := by decide +kernel
theorem dX5_cool_67 : decode cX5_cool 67 = .ok (.invokevirtual 130, 3) := by decide +kernel
theorem dX5_cool_70 : decode cX5_cool 70 = .ok (.iinc 2 1, 3) := by decide +kernel
theorem dX5_cool_73 : decode cX5_cool 73 = .ok (.goto (-47), 3) := by decide +kernel
theorem dX5_cool_76 : decode cX5_cool 76 = .ok (.bipush (-2), 2) := by decide +kernel
theorem dX5_cool_78 : decode cX5_cool 78 = .ok (.ireturn, 1) := by decide +kernel
def Fh_cool_26 : Nat → Int32 → Int32 → Mem → Option (Int32 × Mem)
  | 0, _, _, _ => none
  | n + 1, v1, v2, d =>
    if (99 : Int32) < v2 then
      (some ((-2 : Int32), d))
    else
      (gref (d 0 0 6) fun u1 =>
      bp (De_warmthOf (d u1) v1) fun r2 =>
      if 0 ≤ (Op.cmpValue (FP.fcmp r2 FP.fconst1) .g) then
        (gref (d 0 0 6) fun u3 =>
        gref (d 0 0 6) fun u4 =>
        gref (d u4 10 0) fun u5 =>
        bd (lft d u3 (De_coolDown (d u3) (d u5 4 8))) fun r6 d7 =>
        bnd (v2 + (1 : Int32)) fun v2_8 =>
        Fh_cool_26 n v1 v2_8 d7)
      else
        (some (v2, d)))
def Fh_cool (d : Mem) (a1 : Int32) : Option (Int32 × Mem) :=
  gref (d 0 0 4) fun u9 =>
  bp (Wo_isSpace d (d u9) a1) fun r10 =>
  if r10 = 0 then
    (some ((-1 : Int32), d))
  else
    (gref (d 0 0 6) fun u11 =>
    gref (d 0 0 4) fun u12 =>
    bd (Wo_copyFrom u11 u12 d) fun r13 d14 =>
    bnd (0 : Int32) fun v2_15 =>
    Fh_cool_26 FU a1 v2_15 d14)
theorem y_X5_cool : YV yX5_cool cX5_cool 3 (some .int) 1 := ⟨q1038, q1039, q1040, q143, by decide +kernel, by decide +kernel, by decide +kernel, by decide +kernel⟩
theorem r_Fh_cool_26 {C : Cxt} {G : Geo} (hC : Cx C cX5_cool 3 "FrameHeirs" (some .int) rm_X5_cool G) (hcl : GCl G) (hX : LXx G) (hT : LSt G) : ∀ (n : Nat) (v1 : Int32) (v2 : Int32) (d : Mem), Rz C 3 G gm (poM avI gm) 26 [(0, .inr (0, 0)), (1, .inl (.int v1)), (2, .inl (.int v2))] [] d (Fh_cool_26 n v1 v2 d) := by
  intro n
  induction n with
  | zero => intros; exact z_none
  | succ n ih =>
    intro v1 v2 d
    rw [Fh_cool_26]
    refine z_iload_n (pc := 26) hC 2 rfl 2 rfl dX5_cool_26 ?_
    refine z_bipush (pc := 27) hC (99 : Int32) rfl dX5_cool_27 ?_
    refine z_icmp_gt (pc := 29) hC 76 rfl dX5_cool_29 ?_ ?_
    · refine z_bipush (pc := 76) hC (-2 : Int32) rfl dX5_cool_76 ?_
      exact z_iret (pc := 78) hC rfl dX5_cool_78
    · refine z_aload_n (pc := 32) hC 0 rfl 0 rfl dX5_cool_32 ?_
      refine zg_getW (pc := 33) hC hcl (hX 0 rfl) f_0_6 q437 dX5_cool_33 (fun u1 hu1 gu1 => ?_)
      refine z_getc (pc := 36) hC (hu1 10 rfl) f_10_1 q379 dX5_cool_36 ?_
      refine z_iload_n (pc := 39) hC 1 rfl 1 rfl dX5_cool_39 ?_
      refine z_pfV (pc := 40) (st := []) hC y_X0_warmthOf q1026 [.inl (.int v1)] rfl (hu1 17 rfl) rfl rfl (lft_p (c_X0_warmthOf hC.2.2.2.2.2.2.1 hu1 gu1)) rfl ⟨rfl, rfl, (Nat.le_of_ble_eq_true rfl), (Nat.le_of_ble_eq_true rfl)⟩ (Nat.le_of_ble_eq_true rfl) dX5_cool_40 (fun r2 => ?_)
      refine z_fconst1 (pc := 43) hC dX5_cool_43 ?_
      refine z_fcmp (pc := 44) hC dX5_cool_44 ?_
      refine z_if_ge (pc := 45) hC 50 rfl dX5_cool_45 ?_ ?_
      · refine z_aload_n (pc := 50) hC 0 rfl 0 rfl dX5_cool_50 ?_
        refine zg_getW (pc := 51) hC hcl (hX 0 rfl) f_0_6 q437 dX5_cool_51 (fun u3 hu3 gu3 => ?_)
        refine z_getc (pc := 54) hC (hu3 10 rfl) f_10_1 q379 dX5_cool_54 ?_
        refine z_aload_n (pc := 57) hC 0 rfl 0 rfl dX5_cool_57 ?_
        refine zg_getW (pc := 58) hC hcl (hX 0 rfl) f_0_6 q437 dX5_cool_58 (fun u4 hu4 gu4 => ?_)
        refine zg_getS (pc := 61) hC hcl (hu4 10 rfl) f_10_0 q376 dX5_cool_61 (fun u5 hu5 gu5 => ?_)
        refine zg_geti (pc := 64) hC (hu5 4 rfl) f_4_8 q199 dX5_cool_64 ?_
        refine z_cvV (pc := 67) (st := []) hC y_X0_coolDown q876 [.inl (.int (d u5 4 8))] rfl (hu3 17 rfl) rfl rfl (lft_m (c_X0_coolDown hC.2.2.2.2.2.2.1 hu3 gu3)) rfl ⟨rfl, rfl, (Nat.le_of_ble_eq_true rfl), (Nat.le_of_ble_eq_true rfl)⟩ (Nat.le_of_ble_eq_true rfl) dX5_cool_67 (fun r6 d7 => ?_)
        refine z_iinc (pc := 70) (ls1 := fun v => [(2, .inl (.int v)), (0, .inr (0, 0)), (1, .inl (.int v1))]) hC 2 2 (by decide) (1 : Int32) rfl rfl (fun v => rfl) dX5_cool_70 (fun v2_8 => ?_)
        refine z_goto (pc := 73) hC 26 rfl dX5_cool_73 ?_
        exact z_sub [1, 2, 0] rfl (ih v1 v2_8 d7)
      · refine z_iload_n (pc := 48) hC 2 rfl 2 rfl dX5_cool_48 ?_
        exact z_iret (pc := 49) hC rfl dX5_cool_49
theorem r_Fh_cool {C : Cxt} {G : Geo} (hC : Cx C cX5_cool 3 "FrameHeirs" (some .int) rm_X5_cool G) (hcl : GCl G) (hX : LXx G) (hT : LSt G) (d : Mem) (a1 : Int32) : Rz C 3 G gm (poM avI gm) 0 [(0, .inr (0, 0)), (1, .inl (.int a1))] [] d (Fh_cool d a1) := by
  unfold Fh_cool
  refine z_aload_n (pc := 0) hC 0 rfl 0 rfl dX5_cool_0 ?_
  refine zg_getW (pc := 1) hC hcl (hX 0 rfl) f_0_4 q435 dX5_cool_1 (fun u9 hu9 gu9 => ?_)
  refine z_iload_n (pc := 4) hC 1 rfl 1 rfl dX5_cool_4 ?_
  refine z_piV (pc := 5) (st := []) hC y_X4_isSpace q951 [.inl (.int a1)] rfl (hu9 10 rfl) rfl rfl (lft_p (c_X4_isSpace hC.2.2.2.2.2.2.1 hu9 gu9 hcl)) rfl ⟨rfl, rfl, (Nat.le_of_ble_eq_true rfl), (Nat.le_of_ble_eq_true rfl)⟩ (Nat.le_of_ble_eq_true rfl) dX5_cool_5 (fun r10 => ?_)
  refine z_if_ne (pc := 8) hC 13 rfl dX5_cool_8 ?_ ?_
  · refine z_aload_n (pc := 13) hC 0 rfl 0 rfl dX5_cool_13 ?_
    refine zg_getW (pc := 14) hC hcl (hX 0 rfl) f_0_6 q437 dX5_cool_14 (fun u11 hu11 gu11 => ?_)
    refine z_aload_n (pc := 17) hC 0 rfl 0 rfl dX5_cool_17 ?_
    refine zg_getW (pc := 18) hC hcl (hX 0 rfl) f_0_4 q435 dX5_cool_18 (fun u12 hu12 gu12 => ?_)
    refine z_cvV (pc := 21) (st := []) hC y_X4_copyFrom q616 [.inr (u12, 10)] rfl (hu11 10 rfl) rfl rfl (c_X4_copyFrom hC.2.2.2.2.2.2.1 hcl hX hT hu11 gu11 hu12 gu12) rfl ⟨rfl, rfl, (Nat.le_of_ble_eq_true rfl), (Nat.le_of_ble_eq_true rfl)⟩ (Nat.le_of_ble_eq_true rfl) dX5_cool_21 (fun r13 d14 => ?_)
    refine z_iconst (pc := 24) hC (0 : Int32) rfl dX5_cool_24 ?_
    refine z_istore_n (pc := 25) (ls1 := fun v => [(2, .inl (.int v)), (0, .inr (0, 0)), (1, .inl (.int a1))]) hC 2 rfl (by decide) (fun v => rfl) dX5_cool_25 (fun v2_15 => ?_)
    exact z_sub [1, 2, 0] rfl (r_Fh_cool_26 hC hcl hX hT FU a1 v2_15 d14)
  · refine z_iconst (pc := 11) hC (-1 : Int32) rfl dX5_cool_11 ?_
    exact z_iret (pc := 12) hC rfl dX5_cool_12
theorem c_X5_cool {G : Geo} (hG : GOk G) (hcl : GCl G) (hX : LXx G) (hT : LSt G) {d : Mem} {a1 : Int32} (l : Launch) (r : Int32) (d1 : Mem) (h : Fh_cool d a1 = some (r, d1)) : Mt l yX5_cool cX5_cool 3 (some .int) rm_X5_cool G [.inr (0, 0), .inl (.int a1)] (gm d) (avI r) (gm d1) :=
  mt_of (mem := gm) (po := poM avI gm) (x0 := d) (t := (r, d1)) rfl hG [.inr (0, 0), .inl (.int a1)] (Nat.le_of_ble_eq_true rfl) rfl (fun C hC => r_Fh_cool hC hcl hX hT d a1) h
-- FrameHeirs.kept(I)I
abbrev rm_X5_kept : Room := { frames := 2, cells := 0, slots := 0, locals := 48 }
theorem dX5_kept_0 : decode cX5_kept 0 = .ok (.aload_n 0, 1) := by decide +kernel
theorem dX5_kept_1 : decode cX5_kept 1 = .ok (.getfield 38, 3) := by decide +kernel
theorem dX5_kept_4 : decode cX5_kept 4 = .ok (.iload_n 1, 1) := by decide +kernel
theorem dX5_kept_5 : decode cX5_kept 5 = .ok (.invokevirtual 199, 3) := by decide +kernel
theorem dX5_kept_8 : decode cX5_kept 8 = .ok (.ifCond .eq 14, 3) := by decide +kernel
theorem dX5_kept_11 : decode cX5_kept 11 = .ok (.aload_n 0, 1) := by decide +kernel
theorem dX5_kept_12 : decode cX5_kept 12 = .ok (.getfield 38, 3) := by decide +kernel
theorem dX5_kept_15 : decode cX5_kept 15 = .ok (.iload_n 1, 1) := by decide +kernel
theorem dX5_kept_16 : decode cX5_kept 16 = .ok (.invokevirtual 255, 3) := by decide +kernel
theorem dX5_kept_19 : decode cX5_kept 19 = .ok (.goto 4, 3) := by decide +kernel
theorem dX5_kept_22 : decode cX5_kept 22 = .ok (.iconst (-1), 1) := by decide +kernel
theorem dX5_kept_23 : decode cX5_kept 23 = .ok (.ireturn, 1) := by decide +kernel
def Fh_kept (d : Mem) (a1 : Int32) : Option Int32 :=
  gref (d 0 0 4) fun u1 =>
  bp (Wo_isSpace d (d u1) a1) fun r2 =>
  if r2 = 0 then
    (some (-1 : Int32))
  else
    (gref (d 0 0 4) fun u3 =>
    bp (Wo_keptFor d (d u3) a1) fun r4 =>
    some r4)
theorem y_X5_kept : YV yX5_kept cX5_kept 2 (some .int) 1 := ⟨q1042, q1043, q1044, q143, by decide +kernel, by decide +kernel, by decide +kernel, by decide +kernel⟩
theorem r_Fh_kept {C : Cxt} {G : Geo} (hC : Cx C cX5_kept 2 "FrameHeirs" (some .int) rm_X5_kept G) (hcl : GCl G) (hX : LXx G) (hT : LSt G) (d : Mem) (a1 : Int32) : Rz C 2 G gm (poP avI (gm d)) 0 [(0, .inr (0, 0)), (1, .inl (.int a1))] [] d (Fh_kept d a1) := by
  unfold Fh_kept
  refine z_aload_n (pc := 0) hC 0 rfl 0 rfl dX5_kept_0 ?_
  refine zg_getW (pc := 1) hC hcl (hX 0 rfl) f_0_4 q435 dX5_kept_1 (fun u1 hu1 gu1 => ?_)
  refine z_iload_n (pc := 4) hC 1 rfl 1 rfl dX5_kept_4 ?_
  refine z_piV (pc := 5) (st := []) hC y_X4_isSpace q951 [.inl (.int a1)] rfl (hu1 10 rfl) rfl rfl (lft_p (c_X4_isSpace hC.2.2.2.2.2.2.1 hu1 gu1 hcl)) rfl ⟨rfl, rfl, (Nat.le_of_ble_eq_true rfl), (Nat.le_of_ble_eq_true rfl)⟩ (Nat.le_of_ble_eq_true rfl) dX5_kept_5 (fun r2 => ?_)
  refine z_if_eq (pc := 8) hC 22 rfl dX5_kept_8 ?_ ?_
  · refine z_iconst (pc := 22) hC (-1 : Int32) rfl dX5_kept_22 ?_
    exact z_iret (pc := 23) hC rfl dX5_kept_23
  · refine z_aload_n (pc := 11) hC 0 rfl 0 rfl dX5_kept_11 ?_
    refine zg_getW (pc := 12) hC hcl (hX 0 rfl) f_0_4 q435 dX5_kept_12 (fun u3 hu3 gu3 => ?_)
    refine z_iload_n (pc := 15) hC 1 rfl 1 rfl dX5_kept_15 ?_
    refine z_piV (pc := 16) (st := []) hC y_X4_keptFor q1045 [.inl (.int a1)] rfl (hu3 10 rfl) rfl rfl (lft_p (c_X4_keptFor hC.2.2.2.2.2.2.1 hu3 gu3 hcl)) rfl ⟨rfl, rfl, (Nat.le_of_ble_eq_true rfl), (Nat.le_of_ble_eq_true rfl)⟩ (Nat.le_of_ble_eq_true rfl) dX5_kept_16 (fun r4 => ?_)
    refine z_goto (pc := 19) hC 23 rfl dX5_kept_19 ?_
    exact z_iret (pc := 23) hC rfl dX5_kept_23
theorem c_X5_kept {G : Geo} (hG : GOk G) (hcl : GCl G) (hX : LXx G) (hT : LSt G) {d : Mem} {a1 : Int32} (l : Launch) (r : Int32) (h : Fh_kept d a1 = some r) : Mt l yX5_kept cX5_kept 2 (some .int) rm_X5_kept G [.inr (0, 0), .inl (.int a1)] (gm d) (avI r) (gm d) :=
  mt_of (mem := gm) (po := poP avI (gm d)) (x0 := d) (t := r) rfl hG [.inr (0, 0), .inl (.int a1)] (Nat.le_of_ble_eq_true rfl) rfl (fun C hC => r_Fh_kept hC hcl hX hT d a1) h
-- FrameHeirs.job(II)I
abbrev rm_X5_job : Room := { frames := 2, cells := 0, slots := 0, locals := 46 }
theorem dX5_job_0 : decode cX5_job 0 = .ok (.iload_n 1, 1) := by decide +kernel
theorem dX5_job_1 : decode cX5_job 1 = .ok (.ifCond .lt 23, 3) := by decide +kernel
theorem dX5_job_4 : decode cX5_job 4 = .ok (.iload_n 1, 1) := by decide +kernel
theorem dX5_job_5 : decode cX5_job 5 = .ok (.aload_n 0, 1) := by decide +kernel
theorem dX5_job_6 : decode cX5_job 6 = .ok (.getfield 38, 3) := by decide +kernel
theorem dX5_job_9 : decode cX5_job 9 = .ok (.getfield 258, 3) := by decide +kernel
theorem dX5_job_12 : decode cX5_job 12 = .ok (.if_icmp .ge 12, 3) := by decide +kernel
theorem dX5_job_15 : decode cX5_job 15 = .ok (.iload_n 2, 1) := by decide +kernel
theorem dX5_job_16 : decode cX5_job 16 = .ok (.ifCond .lt 8, 3) := by decide +kernel
theorem dX5_job_19 : decode cX5_job 19 = .ok (.iload_n 2, 1) := by decide +kernel
theorem dX5_job_20 : decode cX5_job 20 = .ok (.iconst 3, 1) := by decide +kernel
theorem dX5_job_21 : decode cX5_job 21 = .ok (.if_icmp .le 5, 3) := by decide +kernel
theorem dX5_job_24 : decode cX5_job 24 = .ok (.iconst (-1), 1) := by decide +kernel
theorem dX5_job_25 : decode cX5_job 25 = .ok (.ireturn, 1) := by decide +kernel
theorem dX5_job_26 : decode cX5_job 26 = .ok (.aload_n 0, 1) := by decide +kernel
theorem dX5_job_27 : decode cX5_job 27 = .ok (.getfield 38, 3) := by decide +kernel
theorem dX5_job_30 : decode cX5_job 30 = .ok (.iload_n 1, 1) := by decide +kernel
theorem dX5_job_31 : decode cX5_job 31 = .ok (.iload_n 2, 1) := by decide +kernel
theorem dX5_job_32 : decode cX5_job 32 = .ok (.invokevirtual 261, 3) := by decide +kernel
theorem dX5_job_35 : decode cX5_job 35 = .ok (.ireturn, 1) := by decide +kernel
def Fh_job (d : Mem) (a1 : Int32) (a2 : Int32) : Option Int32 :=
  if a1 < 0 then
    (some (-1 : Int32))
  else
    (gref (d 0 0 4) fun u1 =>
    if (d u1 10 3) ≤ a1 then
      (some (-1 : Int32))
    else
      (if a2 < 0 then
        (some (-1 : Int32))
      else
        (if a2 ≤ (3 : Int32) then
          (gref (d 0 0 4) fun u2 =>
          bp (Wo_tellJob d (d u2) a1 a2) fun r3 =>
          some r3)
        else
          (some (-1 : Int32)))))
theorem y_X5_job : YV yX5_job cX5_job 3 (some .int) 2 := ⟨q1050, q1051, q1052, q143, by decide +kernel, by decide +kernel, by decide +kernel, by decide +kernel⟩
theorem r_Fh_job {C : Cxt} {G : Geo} (hC : Cx C cX5_job 3 "FrameHeirs" (some .int) rm_X5_job G) (hcl : GCl G) (hX : LXx G) (hT : LSt G) (d : Mem) (a1 : Int32) (a2 : Int32) : Rz C 3 G gm (poP avI (gm d)) 0 [(0, .inr (0, 0)), (1, .inl (.int a1)), (2, .inl (.int a2))] [] d (Fh_job d a1 a2) := by
  unfold Fh_job
  refine z_iload_n (pc := 0) hC 1 rfl 1 rfl dX5_job_0 ?_
  refine z_if_lt (pc := 1) hC 24 rfl dX5_job_1 ?_ ?_
  · refine z_iconst (pc := 24) hC (-1 : Int32) rfl dX5_job_24 ?_
    exact z_iret (pc := 25) hC rfl dX5_job_25
  · refine z_iload_n (pc := 4) hC 1 rfl 1 rfl dX5_job_4 ?_
    refine z_aload_n (pc := 5) hC 0 rfl 0 rfl dX5_job_5 ?_
    refine zg_getW (pc := 6) hC hcl (hX 0 rfl) f_0_4 q435 dX5_job_6 (fun u1 hu1 gu1 => ?_)
    refine zg_geti (pc := 9) hC (hu1 10 rfl) f_10_3 q382 dX5_job_9 ?_
    refine z_icmp_ge (pc := 12) hC 24 rfl dX5_job_12 ?_ ?_
    · refine z_iconst (pc := 24) hC (-1 : Int32) rfl dX5_job_24 ?_
      exact z_iret (pc := 25) hC rfl dX5_job_25
    · refine z_iload_n (pc := 15) hC 2 rfl 2 rfl dX5_job_15 ?_
      refine z_if_lt (pc := 16) hC 24 rfl dX5_job_16 ?_ ?_
      · refine z_iconst (pc := 24) hC (-1 : Int32) rfl dX5_job_24 ?_
        exact z_iret (pc := 25) hC rfl dX5_job_25
      · refine z_iload_n (pc := 19) hC 2 rfl 2 rfl dX5_job_19 ?_
        refine z_iconst (pc := 20) hC (3 : Int32) rfl dX5_job_20 ?_
        refine z_icmp_le (pc := 21) hC 26 rfl dX5_job_21 ?_ ?_
        · refine z_aload_n (pc := 26) hC 0 rfl 0 rfl dX5_job_26 ?_
          refine zg_getW (pc := 27) hC hcl (hX 0 rfl) f_0_4 q435 dX5_job_27 (fun u2 hu2 gu2 => ?_)
          refine z_iload_n (pc := 30) hC 1 rfl 1 rfl dX5_job_30 ?_
          refine z_iload_n (pc := 31) hC 2 rfl 2 rfl dX5_job_31 ?_
          refine z_piV (pc := 32) (st := []) hC y_X4_tellJob q1053 [.inl (.int a1), .inl (.int a2)] rfl (hu2 10 rfl) rfl rfl (lft_p (c_X4_tellJob hC.2.2.2.2.2.2.1 hu2 gu2 hcl)) rfl ⟨rfl, rfl, (Nat.le_of_ble_eq_true rfl), (Nat.le_of_ble_eq_true rfl)⟩ (Nat.le_of_ble_eq_true rfl) dX5_job_32 (fun r3 => ?_)
          exact z_iret (pc := 35) hC rfl dX5_job_35
        · refine z_iconst (pc := 24) hC (-1 : Int32) rfl dX5_job_24 ?_
          exact z_iret (pc := 25) hC rfl dX5_job_25
theorem c_X5_job {G : Geo} (hG : GOk G) (hcl : GCl G) (hX : LXx G) (hT : LSt G) {d : Mem} {a1 : Int32} {a2 : Int32} (l : Launch) (r : Int32) (h : Fh_job d a1 a2 = some r) : Mt l yX5_job cX5_job 3 (some .int) rm_X5_job G [.inr (0, 0), .inl (.int a1), .inl (.int a2)] (gm d) (avI r) (gm d) :=
  mt_of (mem := gm) (po := poP avI (gm d)) (x0 := d) (t := r) rfl hG [.inr (0, 0), .inl (.int a1), .inl (.int a2)] (Nat.le_of_ble_eq_true rfl) rfl (fun C hC => r_Fh_job hC hcl hX hT d a1 a2) h
-- FrameHeirs.waits(II)I
abbrev rm_X5_waits : Room := { frames := 2, cells := 0, slots := 0, locals := 46 }
theorem dX5_waits_0 : decode cX5_waits 0 = .ok (.aload_n 0, 1) := by decide +kernel
theorem dX5_waits_1 : decode cX5_waits 1 = .ok (.getfield 38, 3) := by decide +kernel
theorem dX5_waits_4 : decode cX5_waits 4 = .ok (.iload_n 1, 1) := by decide +kernel
theorem dX5_waits_5 : decode cX5_waits 5 = .ok (.invokevirtual 199, 3) := by decide +kernel
theorem dX5_waits_8 : decode cX5_waits 8 = .ok (.ifCond .eq 12, 3) := by decide +kernel
theorem dX5_waits_11 : decode cX5_waits 11 = .ok (.iload_n 2, 1) := by decide +kernel
theorem dX5_waits_12 : decode cX5_waits 12 = .ok (.ifCond .lt 8, 3) := by decide +kernel
theorem dX5_waits_15 : decode cX5_waits 15 = .ok (.iload_n 2, 1) := by decide +kernel
theorem dX5_waits_16 : decode cX5_waits 16 = .ok (.iconst 3, 1) := by decide +kernel
theorem dX5_waits_17 : decode cX5_waits 17 = .ok (.if_icmp .le 5, 3) := by decide +kernel
theorem dX5_waits_20 : decode cX5_waits 20 = .ok (.iconst (-1), 1) := by decide +kernel
theorem dX5_waits_21 : decode cX5_waits 21 = .ok (.ireturn, 1) := by decide +kernel
theorem dX5_waits_22 : decode cX5_waits 22 = .ok (.aload_n 0, 1) := by decide +kernel
theorem dX5_waits_23 : decode cX5_waits 23 = .ok (.getfield 38, 3) := by decide +kernel
theorem dX5_waits_26 : decode cX5_waits 26 = .ok (.iload_n 1, 1) := by decide +kernel
theorem dX5_waits_27 : decode cX5_waits 27 = .ok (.iload_n 2, 1) := by decide +kernel
theorem dX5_waits_28 : decode cX5_waits 28 = .ok (.invokevirtual 264, 3) := by decide +kernel
theorem dX5_waits_31 : decode cX5_waits 31 = .ok (.ireturn, 1) := by decide +kernel
def Fh_waits (d : Mem) (a1 : Int32) (a2 : Int32) : Option Int32 :=
  gref (d 0 0 4) fun u1 =>
  bp (Wo_isSpace d (d u1) a1) fun r2 =>
  if r2 = 0 then
    (some (-1 : Int32))
  else
    (if a2 < 0 then
      (some (-1 : Int32))
    else
      (if a2 ≤ (3 : Int32) then
        (gref (d 0 0 4) fun u3 =>
        bp (Wo_tellWait d (d u3) a1 a2) fun r4 =>
        some r4)
      else
        (some (-1 : Int32))))
theorem y_X5_waits : YV yX5_waits cX5_waits 3 (some .int) 2 := ⟨q1062, q1063, q1064, q143, by decide +kernel, by decide +kernel, by decide +kernel, by decide +kernel⟩
theorem r_Fh_waits {C : Cxt} {G : Geo} (hC : Cx C cX5_waits 3 "FrameHeirs" (some .int) rm_X5_waits G) (hcl : GCl G) (hX : LXx G) (hT : LSt G) (d : Mem) (a1 : Int32) (a2 : Int32) : Rz C 3 G gm (poP avI (gm d)) 0 [(0, .inr (0, 0)), (1, .inl (.int a1)), (2, .inl (.int a2))] [] d (Fh_waits d a1 a2) := by
  unfold Fh_waits
  refine z_aload_n (pc := 0) hC 0 rfl 0 rfl dX5_waits_0 ?_
  refine zg_getW (pc := 1) hC hcl (hX 0 rfl) f_0_4 q435 dX5_waits_1 (fun u1 hu1 gu1 => ?_)
  refine z_iload_n (pc := 4) hC 1 rfl 1 rfl dX5_waits_4 ?_
  refine z_piV (pc := 5) (st := []) hC y_X4_isSpace q951 [.inl (.int a1)] rfl (hu1 10 rfl) rfl rfl (lft_p (c_X4_isSpace hC.2.2.2.2.2.2.1 hu1 gu1 hcl)) rfl ⟨rfl, rfl, (Nat.le_of_ble_eq_true rfl), (Nat.le_of_ble_eq_true rfl)⟩ (Nat.le_of_ble_eq_true rfl) dX5_waits_5 (fun r2 => ?_)
  refine z_if_eq (pc := 8) hC 20 rfl dX5_waits_8 ?_ ?_
  · refine z_iconst (pc := 20) hC (-1 : Int32) rfl dX5_waits_20 ?_
    exact z_iret (pc := 21) hC rfl dX5_waits_21
  · refine z_iload_n (pc := 11) hC 2 rfl 2 rfl dX5_waits_11 ?_
    refine z_if_lt (pc := 12) hC 20 rfl dX5_waits_12 ?_ ?_
    · refine z_iconst (pc := 20) hC (-1 : Int32) rfl dX5_waits_20 ?_
      exact z_iret (pc := 21) hC rfl dX5_waits_21
    · refine z_iload_n (pc := 15) hC 2 rfl 2 rfl dX5_waits_15 ?_
      refine z_iconst (pc := 16) hC (3 : Int32) rfl dX5_waits_16 ?_
      refine z_icmp_le (pc := 17) hC 22 rfl dX5_waits_17 ?_ ?_
      · refine z_aload_n (pc := 22) hC 0 rfl 0 rfl dX5_waits_22 ?_
        refine zg_getW (pc := 23) hC hcl (hX 0 rfl) f_0_4 q435 dX5_waits_23 (fun u3 hu3 gu3 => ?_)
        refine z_iload_n (pc := 26) hC 1 rfl 1 rfl dX5_waits_26 ?_
        refine z_iload_n (pc := 27) hC 2 rfl 2 rfl dX5_waits_27 ?_
        refine z_piV (pc := 28) (st := []) hC y_X4_tellWait q1065 [.inl (.int a1), .inl (.int a2)] rfl (hu3 10 rfl) rfl rfl (lft_p (c_X4_tellWait hC.2.2.2.2.2.2.1 hu3 gu3 hcl)) rfl ⟨rfl, rfl, (Nat.le_of_ble_eq_true rfl), (Nat.le_of_ble_eq_true rfl)⟩ (Nat.le_of_ble_eq_true rfl) dX5_waits_28 (fun r4 => ?_)
        exact z_iret (pc := 31) hC rfl dX5_waits_31
      · refine z_iconst (pc := 20) hC (-1 : Int32) rfl dX5_waits_20 ?_
        exact z_iret (pc := 21) hC rfl dX5_waits_21
theorem c_X5_waits {G : Geo} (hG : GOk G) (hcl : GCl G) (hX : LXx G) (hT : LSt G) {d : Mem} {a1 : Int32} {a2 : Int32} (l : Launch) (r : Int32) (h : Fh_waits d a1 a2 = some r) : Mt l yX5_waits cX5_waits 3 (some .int) rm_X5_waits G [.inr (0, 0), .inl (.int a1), .inl (.int a2)] (gm d) (avI r) (gm d) :=
  mt_of (mem := gm) (po := poP avI (gm d)) (x0 := d) (t := r) rfl hG [.inr (0, 0), .inl (.int a1), .inl (.int a2)] (Nat.le_of_ble_eq_true rfl) rfl (fun C hC => r_Fh_waits hC hcl hX hT d a1 a2) h
-- FrameHeirs.lost(III)I
abbrev rm_X5_lost : Room := { frames := 2, cells := 0, slots := 0, locals := 57 }
theorem dX5_lost_0 : decode cX5_lost 0 = .ok (.aload_n 0, 1) := by decide +kernel
theorem dX5_lost_1 : decode cX5_lost 1 = .ok (.getfield 38, 3) := by decide +kernel
theorem dX5_lost_4 : decode cX5_lost 4 = .ok (.iload_n 1, 1) := by decide +kernel
theorem dX5_lost_5 : decode cX5_lost 5 = .ok (.iload_n 2, 1) := by decide +kernel
theorem dX5_lost_6 : decode cX5_lost 6 = .ok (.invokevirtual 267, 3) := by decide +kernel
theorem dX5_lost_9 : decode cX5_lost 9 = .ok (.ifCond .eq 12, 3) := by decide +kernel
theorem dX5_lost_12 : decode cX5_lost 12 = .ok (.iload_n 3, 1) := by decide +kernel
theorem dX5_lost_13 : decode cX5_lost 13 = .ok (.ifCond .lt 8, 3) := by decide +kernel
theorem dX5_lost_16 : decode cX5_lost 16 = .ok (.iload_n 3, 1) := by decide +kernel
theorem dX5_lost_17 : decode cX5_lost 17 = .ok (.iconst 1, 1) := by decide +kernel
theorem dX5_lost_18 : decode cX5_lost 18 = .ok (.if_icmp .le 5, 3) := by decide +kernel
theorem dX5_lost_21 : decode cX5_lost 21 = .ok (.iconst (-1), 1) := by decide +kernel
theorem dX5_lost_22 : decode cX5_lost 22 = .ok (.ireturn, 1) := by decide +kernel
theorem dX5_lost_23 : decode cX5_lost 23 = .ok (.aload_n 0, 1) := by decide +kernel
theorem dX5_lost_24 : decode cX5_lost 24 = .ok (.getfield 38, 3) := by decide +kernel
theorem dX5_lost_27 : decode cX5_lost 27 = .ok (.getfield 123, 3) := by decide +kernel
theorem dX5_lost_30 : decode cX5_lost 30 = .ok (.iload_n 1, 1) := by decide +kernel
theorem dX5_lost_31 : decode cX5_lost 31 = .ok (.iload_n 2, 1) := by decide +kernel
theorem dX5_lost_32 : decode cX5_lost 32 = .ok (.iload_n 3, 1) := by decide +kernel
theorem dX5_lost_33 : decode cX5_lost 33 = .ok (.invokestatic 270, 3) := by decide +kernel
theorem dX5_lost_36 : decode cX5_lost 36 = .ok (.ireturn, 1) := by decide +kernel
def Fh_lost (d : Mem) (a1 : Int32) (a2 : Int32) (a3 : Int32) : Option Int32 :=
  gref (d 0 0 4) fun u1 =>
  bp (Wo_isRegionOf d (d u1) a1 a2) fun r2 =>
  if r2 = 0 then
    (some (-1 : Int32))
  else
    (if a3 < 0 then
      (some (-1 : Int32))
    else
      (if a3 ≤ (1 : Int32) then
        (gref (d 0 0 4) fun u3 =>
        bp (Qu_loss (d u3) a1 a2 a3) fun r4 =>
        some r4)
      else
        (some (-1 : Int32))))
theorem y_X5_lost : YV yX5_lost cX5_lost 4 (some .int) 3 := ⟨q1074, q1075, q1076, q143, by decide +kernel, by decide +kernel, by decide +kernel, by decide +kernel⟩
theorem r_Fh_lost {C : Cxt} {G : Geo} (hC : Cx C cX5_lost 4 "FrameHeirs" (some .int) rm_X5_lost G) (hcl : GCl G) (hX : LXx G) (hT : LSt G) (d : Mem) (a1 : Int32) (a2 : Int32) (a3 : Int32) : Rz C 4 G gm (poP avI (gm d)) 0 [(0, .inr (0, 0)), (1, .inl (.int a1)), (2, .inl (.int a2)), (3, .inl (.int a3))] [] d (Fh_lost d a1 a2 a3) := by
  unfold Fh_lost
  refine z_aload_n (pc := 0) hC 0 rfl 0 rfl dX5_lost_0 ?_
  refine zg_getW (pc := 1) hC hcl (hX 0 rfl) f_0_4 q435 dX5_lost_1 (fun u1 hu1 gu1 => ?_)
  refine z_iload_n (pc := 4) hC 1 rfl 1 rfl dX5_lost_4 ?_
  refine z_iload_n (pc := 5) hC 2 rfl 2 rfl dX5_lost_5 ?_
  refine z_piV (pc := 6) (st := []) hC y_X4_isRegionOf q1077 [.inl (.int a1), .inl (.int a2)] rfl (hu1 10 rfl) rfl rfl (lft_p (c_X4_isRegionOf hC.2.2.2.2.2.2.1 hu1 gu1 hcl)) rfl ⟨rfl, rfl, (Nat.le_of_ble_eq_true rfl), (Nat.le_of_ble_eq_true rfl)⟩ (Nat.le_of_ble_eq_true rfl) dX5_lost_6 (fun r2 => ?_)
  refine z_if_eq (pc := 9) hC 21 rfl dX5_lost_9 ?_ ?_
  · refine z_iconst (pc := 21) hC (-1 : Int32) rfl dX5_lost_21 ?_
    exact z_iret (pc := 22) hC rfl dX5_lost_22
  · refine z_iload_n (pc := 12) hC 3 rfl 3 rfl dX5_lost_12 ?_
    refine z_if_lt (pc := 13) hC 21 rfl dX5_lost_13 ?_ ?_
    · refine z_iconst (pc := 21) hC (-1 : Int32) rfl dX5_lost_21 ?_
      exact z_iret (pc := 22) hC rfl dX5_lost_22
    · refine z_iload_n (pc := 16) hC 3 rfl 3 rfl dX5_lost_16 ?_
      refine z_iconst (pc := 17) hC (1 : Int32) rfl dX5_lost_17 ?_
      refine z_icmp_le (pc := 18) hC 23 rfl dX5_lost_18 ?_ ?_
      · refine z_aload_n (pc := 23) hC 0 rfl 0 rfl dX5_lost_23 ?_
        refine zg_getW (pc := 24) hC hcl (hX 0 rfl) f_0_4 q435 dX5_lost_24 (fun u3 hu3 gu3 => ?_)
        refine z_getc (pc := 27) hC (hu3 10 rfl) f_10_1 q379 dX5_lost_27 ?_
        refine z_iload_n (pc := 30) hC 1 rfl 1 rfl dX5_lost_30 ?_
        refine z_iload_n (pc := 31) hC 2 rfl 2 rfl dX5_lost_31 ?_
        refine z_iload_n (pc := 32) hC 3 rfl 3 rfl dX5_lost_32 ?_
        refine z_piS (pc := 33) (st := []) hC y_X1_loss q1078 [.inr (u3, 17), .inl (.int a1), .inl (.int a2), .inl (.int a3)] rfl (lft_p (c_X1_loss hC.2.2.2.2.2.2.1 hu3 gu3)) rfl ⟨rfl, rfl, (Nat.le_of_ble_eq_true rfl), (Nat.le_of_ble_eq_true rfl)⟩ (Nat.le_of_ble_eq_true rfl) dX5_lost_33 (fun r4 => ?_)
        exact z_iret (pc := 36) hC rfl dX5_lost_36
      · refine z_iconst (pc := 21) hC (-1 : Int32) rfl dX5_lost_21 ?_
        exact z_iret (pc := 22) hC rfl dX5_lost_22
theorem c_X5_lost {G : Geo} (hG : GOk G) (hcl : GCl G) (hX : LXx G) (hT : LSt G) {d : Mem} {a1 : Int32} {a2 : Int32} {a3 : Int32} (l : Launch) (r : Int32) (h : Fh_lost d a1 a2 a3 = some r) : Mt l yX5_lost cX5_lost 4 (some .int) rm_X5_lost G [.inr (0, 0), .inl (.int a1), .inl (.int a2), .inl (.int a3)] (gm d) (avI r) (gm d) :=
  mt_of (mem := gm) (po := poP avI (gm d)) (x0 := d) (t := r) rfl hG [.inr (0, 0), .inl (.int a1), .inl (.int a2), .inl (.int a3)] (Nat.le_of_ble_eq_true rfl) rfl (fun C hC => r_Fh_lost hC hcl hX hT d a1 a2 a3) h
-- FrameHeirs.steps(II)I
abbrev rm_X5_steps : Room := { frames := 5, cells := 0, slots := 0, locals := 130 }
theorem dX5_steps_0 : decode cX5_steps 0 = .ok (.aload_n 0, 1) := by decide +kernel
theorem dX5_steps_1 : decode cX5_steps 1 = .ok (.getfield 48, 3) := by decide +kernel
theorem dX5_steps_4 : decode cX5_steps 4 = .ok (.aload_n 0, 1) := by decide +kernel
theorem dX5_steps_5 : decode cX5_steps 5 = .ok (.getfield 38, 3) := by decide +kernel
theorem dX5_steps_8 : decode cX5_steps 8 = .ok (.invokevirtual 251, 3) := by decide +kernel
theorem dX5_steps_11 : decode cX5_steps 11 = .ok (.aload_n 0, 1) := by decide +kernel
theorem dX5_steps_12 : decode cX5_steps 12 = .ok (.getfield 48, 3) := by decide +kernel
theorem dX5_steps_15 : decode cX5_steps 15 = .ok (.iload_n 1, 1) := by decide +kernel
theorem dX5_steps_16 : decode cX5_steps 16 = .ok (.iload_n 2, 1) := by decide +kernel
theorem dX5_steps_17 : decode cX5_steps 17 = .ok (.bipush 7, 2) := by decide +kernel
theorem dX5_steps_19 : decode cX5_steps 19 = .ok (.iconst 0, 1) := by decide +kernel
theorem dX5_steps_20 : decode cX5_steps 20 = .ok (.invokevirtual 105, 3) := by decide +kernel
theorem dX5_steps_23 : decode cX5_steps 23 = .ok (.ireturn, 1) := by decide +kernel
def Fh_steps (d : Mem) (a1 : Int32) (a2 : Int32) : Option (Int32 × Mem) :=
  gref (d 0 0 6) fun u1 =>
  gref (d 0 0 4) fun u2 =>
  bd (Wo_copyFrom u1 u2 d) fun r3 d4 =>
  gref (d4 0 0 6) fun u5 =>
  bd (lft d4 u5 (Wo_startFlush d4 (d4 u5) a1 a2 (7 : Int32) (0 : Int32))) fun r6 d7 =>
  some (r6, d7)
theorem y_X5_steps : YV yX5_steps cX5_steps 3 (some .int) 2 := ⟨q1086, q1087, q1088, q143, by decide +kernel, by decide +kernel, by decide +kernel, by decide +kernel⟩
theorem r_Fh_steps {C : Cxt} {G : Geo} (hC : Cx C cX5_steps 3 "FrameHeirs" (some .int) rm_X5_steps G) (hcl : GCl G) (hX : LXx G) (hT : LSt G) (d : Mem) (a1 : Int32) (a2 : Int32) : Rz C 3 G gm (poM avI gm) 0 [(0, .inr (0, 0)), (1, .inl (.int a1)), (2, .inl (.int a2))] [] d (Fh_steps d a1 a2) := by
  unfold Fh_steps
  refine z_aload_n (pc := 0) hC 0 rfl 0 rfl dX5_steps_0 ?_
  refine zg_getW (pc := 1) hC hcl (hX 0 rfl) f_0_6 q437 dX5_steps_1 (fun u1 hu1 gu1 => ?_)
  refine z_aload_n (pc := 4) hC 0 rfl 0 rfl dX5_steps_4 ?_
  refine zg_getW (pc := 5) hC hcl (hX 0 rfl) f_0_4 q435 dX5_steps_5 (fun u2 hu2 gu2 => ?_)
  refine z_cvV (pc := 8) (st := []) hC y_X4_copyFrom q616 [.inr (u2, 10)] rfl (hu1 10 rfl) rfl rfl (c_X4_copyFrom hC.2.2.2.2.2.2.1 hcl hX hT hu1 gu1 hu2 gu2) rfl ⟨rfl, rfl, (Nat.le_of_ble_eq_true rfl), (Nat.le_of_ble_eq_true rfl)⟩ (Nat.le_of_ble_eq_true rfl) dX5_steps_8 (fun r3 d4 => ?_)
  refine z_aload_n (pc := 11) hC 0 rfl 0 rfl dX5_steps_11 ?_
  refine zg_getW (pc := 12) hC hcl (hX 0 rfl) f_0_6 q437 dX5_steps_12 (fun u5 hu5 gu5 => ?_)
  refine z_iload_n (pc := 15) hC 1 rfl 1 rfl dX5_steps_15 ?_
  refine z_iload_n (pc := 16) hC 2 rfl 2 rfl dX5_steps_16 ?_
  refine z_bipush (pc := 17) hC (7 : Int32) rfl dX5_steps_17 ?_
  refine z_iconst (pc := 19) hC (0 : Int32) rfl dX5_steps_19 ?_
  refine z_ciV (pc := 20) (st := []) hC y_X4_startFlush q749 [.inl (.int a1), .inl (.int a2), .inl (.int (7 : Int32)), .inl (.int (0 : Int32))] rfl (hu5 10 rfl) rfl rfl (lft_m (c_X4_startFlush hC.2.2.2.2.2.2.1 hu5 gu5 hcl)) rfl ⟨rfl, rfl, (Nat.le_of_ble_eq_true rfl), (Nat.le_of_ble_eq_true rfl)⟩ (Nat.le_of_ble_eq_true rfl) dX5_steps_20 (fun r6 d7 => ?_)
  exact z_iret (pc := 23) hC rfl dX5_steps_23
theorem c_X5_steps {G : Geo} (hG : GOk G) (hcl : GCl G) (hX : LXx G) (hT : LSt G) {d : Mem} {a1 : Int32} {a2 : Int32} (l : Launch) (r : Int32) (d1 : Mem) (h : Fh_steps d a1 a2 = some (r, d1)) : Mt l yX5_steps cX5_steps 3 (some .int) rm_X5_steps G [.inr (0, 0), .inl (.int a1), .inl (.int a2)] (gm d) (avI r) (gm d1) :=
  mt_of (mem := gm) (po := poM avI gm) (x0 := d) (t := (r, d1)) rfl hG [.inr (0, 0), .inl (.int a1), .inl (.int a2)] (Nat.le_of_ble_eq_true rfl) rfl (fun C hC => r_Fh_steps hC hcl hX hT d a1 a2) h
