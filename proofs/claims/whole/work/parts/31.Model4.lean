theorem dX10_plays_0 : decode cX10_plays 0 = .ok (.aload_n 0, 1) := by decide +kernel
theorem dX10_plays_1 : decode cX10_plays 1 = .ok (.iconst 0, 1) := by decide +kernel
theorem dX10_plays_2 : decode cX10_plays 2 = .ok (.bipush 11, 2) := by decide +kernel
theorem dX10_plays_4 : decode cX10_plays 4 = .ok (.invokevirtual 130, 3) := by decide +kernel
theorem dX10_plays_7 : decode cX10_plays 7 = .ok (.aload_n 0, 1) := by decide +kernel
theorem dX10_plays_8 : decode cX10_plays 8 = .ok (.invokevirtual 150, 3) := by decide +kernel
theorem dX10_plays_11 : decode cX10_plays 11 = .ok (.iconst 1, 1) := by decide +kernel
theorem dX10_plays_12 : decode cX10_plays 12 = .ok (.iconst 2, 1) := by decide +kernel
theorem dX10_plays_13 : decode cX10_plays 13 = .ok (.aload_n 0, 1) := by decide +kernel
theorem dX10_plays_14 : decode cX10_plays 14 = .ok (.getfield 147, 3) := by decide +kernel
theorem dX10_plays_17 : decode cX10_plays 17 = .ok (.imul, 1) := by decide +kernel
theorem dX10_plays_18 : decode cX10_plays 18 = .ok (.ishl, 1) := by decide +kernel
theorem dX10_plays_19 : decode cX10_plays 19 = .ok (.iconst 1, 1) := by decide +kernel
theorem dX10_plays_20 : decode cX10_plays 20 = .ok (.isub, 1) := by decide +kernel
theorem dX10_plays_21 : decode cX10_plays 21 = .ok (.istore_n 2, 1) := by decide +kernel
theorem dX10_plays_22 : decode cX10_plays 22 = .ok (.iload_n 2, 1) := by decide +kernel
theorem dX10_plays_23 : decode cX10_plays 23 = .ok (.ifCond .lt 256, 3) := by decide +kernel
theorem dX10_plays_26 : decode cX10_plays 26 = .ok (.aload_n 0, 1) := by decide +kernel
theorem dX10_plays_27 : decode cX10_plays 27 = .ok (.iload_n 2, 1) := by decide +kernel
theorem dX10_plays_28 : decode cX10_plays 28 = .ok (.aload_n 0, 1) := by decide +kernel
theorem dX10_plays_29 : decode cX10_plays 29 = .ok (.getfield 30, 3) := by decide +kernel
theorem dX10_plays_32 : decode cX10_plays 32 = .ok (.bipush 19, 2) := by decide +kernel
theorem dX10_plays_34 : decode cX10_plays 34 = .ok (.iaload, 1) := by decide +kernel
theorem dX10_plays_35 : decode cX10_plays 35 = .ok (.invokevirtual 174, 3) := by decide +kernel
theorem dX10_plays_38 : decode cX10_plays 38 = .ok (.aload_n 0, 1) := by decide +kernel
theorem dX10_plays_39 : decode cX10_plays 39 = .ok (.getfield 30, 3) := by decide +kernel
theorem dX10_plays_42 : decode cX10_plays 42 = .ok (.sipush 239, 3) := by decide +kernel
theorem dX10_plays_45 : decode cX10_plays 45 = .ok (.iaload, 1) := by decide +kernel
theorem dX10_plays_46 : decode cX10_plays 46 = .ok (.istore_n 3, 1) := by decide +kernel
theorem dX10_plays_47 : decode cX10_plays 47 = .ok (.iconst 1, 1) := by decide +kernel
theorem dX10_plays_48 : decode cX10_plays 48 = .ok (.istore 4, 2) := by decide +kernel
theorem dX10_plays_50 : decode cX10_plays 50 = .ok (.iconst 0, 1) := by decide +kernel
theorem dX10_plays_51 : decode cX10_plays 51 = .ok (.istore 5, 2) := by decide +kernel
theorem dX10_plays_53 : decode cX10_plays 53 = .ok (.iconst 1, 1) := by decide +kernel
theorem dX10_plays_54 : decode cX10_plays 54 = .ok (.istore 6, 2) := by decide +kernel
theorem dX10_plays_56 : decode cX10_plays 56 = .ok (.iconst 0, 1) := by decide +kernel
theorem dX10_plays_57 : decode cX10_plays 57 = .ok (.istore 7, 2) := by decide +kernel
theorem dX10_plays_59 : decode cX10_plays 59 = .ok (.iload 7, 2) := by decide +kernel
theorem dX10_plays_61 : decode cX10_plays 61 = .ok (.aload_n 0, 1) := by decide +kernel
theorem dX10_plays_62 : decode cX10_plays 62 = .ok (.getfield 147, 3) := by decide +kernel
theorem dX10_plays_65 : decode cX10_plays 65 = .ok (.if_icmp .ge 147, 3) := by decide +kernel
theorem dX10_plays_68 : decode cX10_plays 68 = .ok (.aload_n 0, 1) := by decide +kernel
theorem dX10_plays_69 : decode cX10_plays 69 = .ok (.getfield 30, 3) := by decide +kernel
theorem dX10_plays_72 : decode cX10_plays 72 = .ok (.sipush 220, 3) := by decide +kernel
theorem dX10_plays_75 : decode cX10_plays 75 = .ok (.aload_n 0, 1) := by decide +kernel
theorem dX10_plays_76 : decode cX10_plays 76 = .ok (.getfield 36, 3) := by decide +kernel
theorem dX10_plays_79 : decode cX10_plays 79 = .ok (.iload 7, 2) := by decide +kernel
theorem dX10_plays_81 : decode cX10_plays 81 = .ok (.iaload, 1) := by decide +kernel
theorem dX10_plays_82 : decode cX10_plays 82 = .ok (.iadd, 1) := by decide +kernel
theorem dX10_plays_83 : decode cX10_plays 83 = .ok (.iaload, 1) := by decide +kernel
theorem dX10_plays_84 : decode cX10_plays 84 = .ok (.ifCond .ne 7, 3) := by decide +kernel
theorem dX10_plays_87 : decode cX10_plays 87 = .ok (.iconst 1, 1) := by decide +kernel
theorem dX10_plays_88 : decode cX10_plays 88 = .ok (.goto 4, 3) := by decide +kernel
theorem dX10_plays_91 : decode cX10_plays 91 = .ok (.iconst 0, 1) := by decide +kernel
theorem dX10_plays_92 : decode cX10_plays 92 = .ok (.istore 8, 2) := by decide +kernel
theorem dX10_plays_94 : decode cX10_plays 94 = .ok (.iload 6, 2) := by decide +kernel
theorem dX10_plays_96 : decode cX10_plays 96 = .ok (.ifCond .eq 12, 3) := by decide +kernel
theorem dX10_plays_99 : decode cX10_plays 99 = .ok (.iload 8, 2) := by decide +kernel
theorem dX10_plays_101 : decode cX10_plays 101 = .ok (.ifCond .ne 7, 3) := by decide +kernel
theorem dX10_plays_104 : decode cX10_plays 104 = .ok (.iconst 1, 1) := by decide +kernel
theorem dX10_plays_105 : decode cX10_plays 105 = .ok (.goto 4, 3) := by decide +kernel
theorem dX10_plays_108 : decode cX10_plays 108 = .ok (.iconst 0, 1) := by decide +kernel
theorem dX10_plays_109 : decode cX10_plays 109 = .ok (.istore 6, 2) := by decide +kernel
theorem dX10_plays_111 : decode cX10_plays 111 = .ok (.iconst 1, 1) := by decide +kernel
theorem dX10_plays_112 : decode cX10_plays 112 = .ok (.istore 9, 2) := by decide +kernel
theorem dX10_plays_114 : decode cX10_plays 114 = .ok (.iload 9, 2) := by decide +kernel
theorem dX10_plays_116 : decode cX10_plays 116 = .ok (.aload_n 0, 1) := by decide +kernel
theorem dX10_plays_117 : decode cX10_plays 117 = .ok (.getfield 13, 3) := by decide +kernel
theorem dX10_plays_120 : decode cX10_plays 120 = .ok (.iconst 2, 1) := by decide +kernel
theorem dX10_plays_121 : decode cX10_plays 121 = .ok (.iaload, 1) := by decide +kernel
theorem dX10_plays_122 : decode cX10_plays 122 = .ok (.if_icmp .gt 84, 3) := by decide +kernel
theorem dX10_plays_125 : decode cX10_plays 125 = .ok (.iload 8, 2) := by decide +kernel
theorem dX10_plays_127 : decode cX10_plays 127 = .ok (.ifCond .eq 79, 3) := by decide +kernel
theorem dX10_plays_130 : decode cX10_plays 130 = .ok (.aload_n 0, 1) := by decide +kernel
theorem dX10_plays_131 : decode cX10_plays 131 = .ok (.bipush 11, 2) := by decide +kernel
theorem dX10_plays_133 : decode cX10_plays 133 = .ok (.aload_n 0, 1) := by decide +kernel
theorem dX10_plays_134 : decode cX10_plays 134 = .ok (.getfield 36, 3) := by decide +kernel
theorem dX10_plays_137 : decode cX10_plays 137 = .ok (.iload 7, 2) := by decide +kernel
theorem dX10_plays_139 : decode cX10_plays 139 = .ok (.iaload, 1) := by decide +kernel
theorem dX10_plays_140 : decode cX10_plays 140 = .ok (.iload 9, 2) := by decide +kernel
theorem dX10_plays_142 : decode cX10_plays 142 = .ok (.invokevirtual 127, 3) := by decide +kernel
theorem dX10_plays_145 : decode cX10_plays 145 = .ok (.istore 10, 2) := by decide +kernel
theorem dX10_plays_147 : decode cX10_plays 147 = .ok (.iload 4, 2) := by decide +kernel
theorem dX10_plays_149 : decode cX10_plays 149 = .ok (.ifCond .eq 12, 3) := by decide +kernel
theorem dX10_plays_152 : decode cX10_plays 152 = .ok (.iload 10, 2) := by decide +kernel
theorem dX10_plays_154 : decode cX10_plays 154 = .ok (.ifCond .ne 7, 3) := by decide +kernel
theorem dX10_plays_157 : decode cX10_plays 157 = .ok (.iconst 1, 1) := by decide +kernel
theorem dX10_plays_158 : decode cX10_plays 158 = .ok (.goto 4, 3) := by decide +kernel
theorem dX10_plays_161 : decode cX10_plays 161 = .ok (.iconst 0, 1) := by decide +kernel
theorem dX10_plays_162 : decode cX10_plays 162 = .ok (.istore 4, 2) := by decide +kernel
theorem dX10_plays_164 : decode cX10_plays 164 = .ok (.iload 5, 2) := by decide +kernel
theorem dX10_plays_166 : decode cX10_plays 166 = .ok (.ifCond .ne 27, 3) := by decide +kernel
theorem dX10_plays_169 : decode cX10_plays 169 = .ok (.iload 10, 2) := by decide +kernel
theorem dX10_plays_171 : decode cX10_plays 171 = .ok (.ifCond .eq 26, 3) := by decide +kernel
theorem dX10_plays_174 : decode cX10_plays 174 = .ok (.aload_n 0, 1) := by decide +kernel
theorem dX10_plays_175 : decode cX10_plays 175 = .ok (.getfield 40, 3) := by decide +kernel
theorem dX10_plays_178 : decode cX10_plays 178 = .ok (.iload_n 2, 1) := by decide +kernel
theorem dX10_plays_179 : decode cX10_plays 179 = .ok (.iload 9, 2) := by decide +kernel
theorem dX10_plays_181 : decode cX10_plays 181 = .ok (.aload_n 0, 1) := by decide +kernel
theorem dX10_plays_182 : decode cX10_plays 182 = .ok (.iload 7, 2) := by decide +kernel
theorem dX10_plays_184 : decode cX10_plays 184 = .ok (.invokevirtual 177, 3) := by decide +kernel
theorem dX10_plays_187 : decode cX10_plays 187 = .ok (.imul, 1) := by decide +kernel
theorem dX10_plays_188 : decode cX10_plays 188 = .ok (.iadd, 1) := by decide +kernel
theorem dX10_plays_189 : decode cX10_plays 189 = .ok (.baload, 1) := by decide +kernel
theorem dX10_plays_190 : decode cX10_plays 190 = .ok (.ifCond .ne 7, 3) := by decide +kernel
theorem dX10_plays_193 : decode cX10_plays 193 = .ok (.iconst 1, 1) := by decide +kernel
theorem dX10_plays_194 : decode cX10_plays 194 = .ok (.goto 4, 3) := by decide +kernel
theorem dX10_plays_197 : decode cX10_plays 197 = .ok (.iconst 0, 1) := by decide +kernel
theorem dX10_plays_198 : decode cX10_plays 198 = .ok (.istore 5, 2) := by decide +kernel
theorem dX10_plays_200 : decode cX10_plays 200 = .ok (.iinc 9 1, 3) := by decide +kernel
theorem dX10_plays_203 : decode cX10_plays 203 = .ok (.goto (-89), 3) := by decide +kernel
theorem dX10_plays_206 : decode cX10_plays 206 = .ok (.iinc 7 1, 3) := by decide +kernel
theorem dX10_plays_209 : decode cX10_plays 209 = .ok (.goto (-150), 3) := by decide +kernel
theorem dX10_plays_212 : decode cX10_plays 212 = .ok (.iload_n 1, 1) := by decide +kernel
theorem dX10_plays_213 : decode cX10_plays 213 = .ok (.ifCond .lt 22, 3) := by decide +kernel
theorem dX10_plays_216 : decode cX10_plays 216 = .ok (.iload 6, 2) := by decide +kernel
theorem dX10_plays_218 : decode cX10_plays 218 = .ok (.iload_n 3, 1) := by decide +kernel
theorem dX10_plays_219 : decode cX10_plays 219 = .ok (.iload_n 1, 1) := by decide +kernel
theorem dX10_plays_220 : decode cX10_plays 220 = .ok (.if_icmp .ne 7, 3) := by decide +kernel
theorem dX10_plays_223 : decode cX10_plays 223 = .ok (.iconst 1, 1) := by decide +kernel
theorem dX10_plays_224 : decode cX10_plays 224 = .ok (.goto 4, 3) := by decide +kernel
theorem dX10_plays_227 : decode cX10_plays 227 = .ok (.iconst 0, 1) := by decide +kernel
theorem dX10_plays_228 : decode cX10_plays 228 = .ok (.if_icmp .ne 7, 3) := by decide +kernel
theorem dX10_plays_231 : decode cX10_plays 231 = .ok (.iconst 1, 1) := by decide +kernel
theorem dX10_plays_232 : decode cX10_plays 232 = .ok (.goto 4, 3) := by decide +kernel
theorem dX10_plays_235 : decode cX10_plays 235 = .ok (.iconst 0, 1) := by decide +kernel
theorem dX10_plays_236 : decode cX10_plays 236 = .ok (.istore 7, 2) := by decide +kernel
theorem dX10_plays_238 : decode cX10_plays 238 = .ok (.aload_n 0, 1) := by decide +kernel
theorem dX10_plays_239 : decode cX10_plays 239 = .ok (.getfield 40, 3) := by decide +kernel
theorem dX10_plays_242 : decode cX10_plays 242 = .ok (.iload_n 2, 1) := by decide +kernel
theorem dX10_plays_243 : decode cX10_plays 243 = .ok (.iload 4, 2) := by decide +kernel
theorem dX10_plays_245 : decode cX10_plays 245 = .ok (.ifCond .eq 16, 3) := by decide +kernel
theorem dX10_plays_248 : decode cX10_plays 248 = .ok (.iload 7, 2) := by decide +kernel
theorem dX10_plays_250 : decode cX10_plays 250 = .ok (.ifCond .eq 7, 3) := by decide +kernel
theorem dX10_plays_253 : decode cX10_plays 253 = .ok (.iconst 1, 1) := by decide +kernel
theorem dX10_plays_254 : decode cX10_plays 254 = .ok (.goto 17, 3) := by decide +kernel
theorem dX10_plays_257 : decode cX10_plays 257 = .ok (.iconst 0, 1) := by decide +kernel
theorem dX10_plays_258 : decode cX10_plays 258 = .ok (.goto 13, 3) := by decide +kernel
theorem dX10_plays_261 : decode cX10_plays 261 = .ok (.iload 5, 2) := by decide +kernel
theorem dX10_plays_263 : decode cX10_plays 263 = .ok (.ifCond .eq 7, 3) := by decide +kernel
theorem dX10_plays_266 : decode cX10_plays 266 = .ok (.iconst 1, 1) := by decide +kernel
theorem dX10_plays_267 : decode cX10_plays 267 = .ok (.goto 4, 3) := by decide +kernel
theorem dX10_plays_270 : decode cX10_plays 270 = .ok (.iconst 0, 1) := by decide +kernel
theorem dX10_plays_271 : decode cX10_plays 271 = .ok (.i2b, 1) := by decide +kernel
theorem dX10_plays_272 : decode cX10_plays 272 = .ok (.bastore, 1) := by decide +kernel
theorem dX10_plays_273 : decode cX10_plays 273 = .ok (.iinc 2 (-1), 3) := by decide +kernel
theorem dX10_plays_276 : decode cX10_plays 276 = .ok (.goto (-254), 3) := by decide +kernel
theorem dX10_plays_279 : decode cX10_plays 279 = .ok (.return_, 1) := by decide +kernel
def fX10_plays_271 (F : Nat) (t_stones : Int32) (t_told_ : Nat → Int32) (t_touches_ : Nat → Int32) (t_has_ : Nat → Int32) (t_beside_ : Nat → Int32) (p1 : Int32) (k22 : Int32 → Int32 → (Nat → Int32) → (Nat → Int32) → (Nat → Int32) → Option (Int32 × (Nat → Int32) × (Nat → Int32) × (Nat → Int32))) (x92 : Int32) (s93 : Int32) (s94 : Int32) (m_t_frees_95 : Int32) (m_t_slot__96 : Nat → Int32) (m_t_free__97 : Nat → Int32) (m_t_worth__98 : Nat → Int32) : Option (Int32 × (Nat → Int32) × (Nat → Int32) × (Nat → Int32)) :=
(if s94 < 0 ∨ 262144 ≤ s94.toNatClampNeg then none else
(jl_let (upd m_t_worth__98 s94.toNatClampNeg (vp_nar .byte s93.toInt8.toInt32)) fun g113 =>
(jl_let (x92 + Int32.ofInt (-1)) fun v114 =>
(k22 v114 m_t_frees_95 m_t_slot__96 m_t_free__97 g113))))
def fX10_plays_236 (F : Nat) (t_stones : Int32) (t_told_ : Nat → Int32) (t_touches_ : Nat → Int32) (t_has_ : Nat → Int32) (t_beside_ : Nat → Int32) (p1 : Int32) (k22 : Int32 → Int32 → (Nat → Int32) → (Nat → Int32) → (Nat → Int32) → Option (Int32 × (Nat → Int32) × (Nat → Int32) × (Nat → Int32))) (x58 : Int32) (x59 : Int32) (x60 : Int32) (s61 : Int32) (m_t_frees_62 : Int32) (m_t_slot__63 : Nat → Int32) (m_t_free__64 : Nat → Int32) (m_t_worth__65 : Nat → Int32) : Option (Int32 × (Nat → Int32) × (Nat → Int32) × (Nat → Int32)) :=
(if x59 = 0 then
(if x60 = 0 then
(fX10_plays_271 F t_stones t_told_ t_touches_ t_has_ t_beside_ p1 k22 x58 ((0 : Int32)) x58 m_t_frees_62 m_t_slot__63 m_t_free__64 m_t_worth__65)
else
(fX10_plays_271 F t_stones t_told_ t_touches_ t_has_ t_beside_ p1 k22 x58 ((1 : Int32)) x58 m_t_frees_62 m_t_slot__63 m_t_free__64 m_t_worth__65))
else
(if s61 = 0 then
(fX10_plays_271 F t_stones t_told_ t_touches_ t_has_ t_beside_ p1 k22 x58 ((0 : Int32)) x58 m_t_frees_62 m_t_slot__63 m_t_free__64 m_t_worth__65)
else
(fX10_plays_271 F t_stones t_told_ t_touches_ t_has_ t_beside_ p1 k22 x58 ((1 : Int32)) x58 m_t_frees_62 m_t_slot__63 m_t_free__64 m_t_worth__65)))
def fX10_plays_235 (F : Nat) (t_stones : Int32) (t_told_ : Nat → Int32) (t_touches_ : Nat → Int32) (t_has_ : Nat → Int32) (t_beside_ : Nat → Int32) (p1 : Int32) (k22 : Int32 → Int32 → (Nat → Int32) → (Nat → Int32) → (Nat → Int32) → Option (Int32 × (Nat → Int32) × (Nat → Int32) × (Nat → Int32))) (x27 : Int32) (x28 : Int32) (x29 : Int32) (m_t_frees_30 : Int32) (m_t_slot__31 : Nat → Int32) (m_t_free__32 : Nat → Int32) (m_t_worth__33 : Nat → Int32) : Option (Int32 × (Nat → Int32) × (Nat → Int32) × (Nat → Int32)) :=
(fX10_plays_236 F t_stones t_told_ t_touches_ t_has_ t_beside_ p1 k22 x27 x28 x29 ((0 : Int32)) m_t_frees_30 m_t_slot__31 m_t_free__32 m_t_worth__33)
def fX10_plays_228 (F : Nat) (t_stones : Int32) (t_told_ : Nat → Int32) (t_touches_ : Nat → Int32) (t_has_ : Nat → Int32) (t_beside_ : Nat → Int32) (p1 : Int32) (k22 : Int32 → Int32 → (Nat → Int32) → (Nat → Int32) → (Nat → Int32) → Option (Int32 × (Nat → Int32) × (Nat → Int32) × (Nat → Int32))) (x35 : Int32) (x36 : Int32) (x37 : Int32) (s38 : Int32) (s39 : Int32) (m_t_frees_40 : Int32) (m_t_slot__41 : Nat → Int32) (m_t_free__42 : Nat → Int32) (m_t_worth__43 : Nat → Int32) : Option (Int32 × (Nat → Int32) × (Nat → Int32) × (Nat → Int32)) :=
(if s39 = s38 then
(fX10_plays_236 F t_stones t_told_ t_touches_ t_has_ t_beside_ p1 k22 x35 x36 x37 ((1 : Int32)) m_t_frees_40 m_t_slot__41 m_t_free__42 m_t_worth__43)
else
(fX10_plays_235 F t_stones t_told_ t_touches_ t_has_ t_beside_ p1 k22 x35 x36 x37 m_t_frees_40 m_t_slot__41 m_t_free__42 m_t_worth__43))
def fX10_plays_198 (F : Nat) (t_stones : Int32) (t_told_ : Nat → Int32) (t_touches_ : Nat → Int32) (t_has_ : Nat → Int32) (t_beside_ : Nat → Int32) (p1 : Int32) (k22 : Int32 → Int32 → (Nat → Int32) → (Nat → Int32) → (Nat → Int32) → Option (Int32 × (Nat → Int32) × (Nat → Int32) × (Nat → Int32))) (k59 : Int32 → Int32 → Int32 → Int32 → Int32 → Int32 → Int32 → (Nat → Int32) → (Nat → Int32) → (Nat → Int32) → Option (Int32 × (Nat → Int32) × (Nat → Int32) × (Nat → Int32))) (k114 : Int32 → Int32 → Int32 → Int32 → Int32 → Int32 → Int32 → Int32 → Int32 → (Nat → Int32) → (Nat → Int32) → (Nat → Int32) → Option (Int32 × (Nat → Int32) × (Nat → Int32) × (Nat → Int32))) (x177 : Int32) (x178 : Int32) (x179 : Int32) (x180 : Int32) (x181 : Int32) (x182 : Int32) (x183 : Int32) (s184 : Int32) (m_t_frees_185 : Int32) (m_t_slot__186 : Nat → Int32) (m_t_free__187 : Nat → Int32) (m_t_worth__188 : Nat → Int32) : Option (Int32 × (Nat → Int32) × (Nat → Int32) × (Nat → Int32)) :=
(jl_let (x183 + Int32.ofInt (1)) fun v189 =>
(k114 x177 x178 x179 s184 x180 x181 x182 v189 m_t_frees_185 m_t_slot__186 m_t_free__187 m_t_worth__188))
def fX10_plays_193 (F : Nat) (t_stones : Int32) (t_told_ : Nat → Int32) (t_touches_ : Nat → Int32) (t_has_ : Nat → Int32) (t_beside_ : Nat → Int32) (p1 : Int32) (k22 : Int32 → Int32 → (Nat → Int32) → (Nat → Int32) → (Nat → Int32) → Option (Int32 × (Nat → Int32) × (Nat → Int32) × (Nat → Int32))) (k59 : Int32 → Int32 → Int32 → Int32 → Int32 → Int32 → Int32 → (Nat → Int32) → (Nat → Int32) → (Nat → Int32) → Option (Int32 × (Nat → Int32) × (Nat → Int32) × (Nat → Int32))) (k114 : Int32 → Int32 → Int32 → Int32 → Int32 → Int32 → Int32 → Int32 → Int32 → (Nat → Int32) → (Nat → Int32) → (Nat → Int32) → Option (Int32 × (Nat → Int32) × (Nat → Int32) × (Nat → Int32))) (x166 : Int32) (x167 : Int32) (x168 : Int32) (x169 : Int32) (x170 : Int32) (x171 : Int32) (x172 : Int32) (m_t_frees_173 : Int32) (m_t_slot__174 : Nat → Int32) (m_t_free__175 : Nat → Int32) (m_t_worth__176 : Nat → Int32) : Option (Int32 × (Nat → Int32) × (Nat → Int32) × (Nat → Int32)) :=
(fX10_plays_198 F t_stones t_told_ t_touches_ t_has_ t_beside_ p1 k22 k59 k114 x166 x167 x168 x169 x170 x171 x172 ((1 : Int32)) m_t_frees_173 m_t_slot__174 m_t_free__175 m_t_worth__176)
def fX10_plays_197 (F : Nat) (t_stones : Int32) (t_told_ : Nat → Int32) (t_touches_ : Nat → Int32) (t_has_ : Nat → Int32) (t_beside_ : Nat → Int32) (p1 : Int32) (k22 : Int32 → Int32 → (Nat → Int32) → (Nat → Int32) → (Nat → Int32) → Option (Int32 × (Nat → Int32) × (Nat → Int32) × (Nat → Int32))) (k59 : Int32 → Int32 → Int32 → Int32 → Int32 → Int32 → Int32 → (Nat → Int32) → (Nat → Int32) → (Nat → Int32) → Option (Int32 × (Nat → Int32) × (Nat → Int32) × (Nat → Int32))) (k114 : Int32 → Int32 → Int32 → Int32 → Int32 → Int32 → Int32 → Int32 → Int32 → (Nat → Int32) → (Nat → Int32) → (Nat → Int32) → Option (Int32 × (Nat → Int32) × (Nat → Int32) × (Nat → Int32))) (x151 : Int32) (x152 : Int32) (x153 : Int32) (x154 : Int32) (x155 : Int32) (x156 : Int32) (x157 : Int32) (m_t_frees_158 : Int32) (m_t_slot__159 : Nat → Int32) (m_t_free__160 : Nat → Int32) (m_t_worth__161 : Nat → Int32) : Option (Int32 × (Nat → Int32) × (Nat → Int32) × (Nat → Int32)) :=
(fX10_plays_198 F t_stones t_told_ t_touches_ t_has_ t_beside_ p1 k22 k59 k114 x151 x152 x153 x154 x155 x156 x157 ((0 : Int32)) m_t_frees_158 m_t_slot__159 m_t_free__160 m_t_worth__161)
def fX10_plays_162 (F : Nat) (t_stones : Int32) (t_told_ : Nat → Int32) (t_touches_ : Nat → Int32) (t_has_ : Nat → Int32) (t_beside_ : Nat → Int32) (p1 : Int32) (k22 : Int32 → Int32 → (Nat → Int32) → (Nat → Int32) → (Nat → Int32) → Option (Int32 × (Nat → Int32) × (Nat → Int32) × (Nat → Int32))) (k59 : Int32 → Int32 → Int32 → Int32 → Int32 → Int32 → Int32 → (Nat → Int32) → (Nat → Int32) → (Nat → Int32) → Option (Int32 × (Nat → Int32) × (Nat → Int32) × (Nat → Int32))) (k114 : Int32 → Int32 → Int32 → Int32 → Int32 → Int32 → Int32 → Int32 → Int32 → (Nat → Int32) → (Nat → Int32) → (Nat → Int32) → Option (Int32 × (Nat → Int32) × (Nat → Int32) × (Nat → Int32))) (x136 : Int32) (x137 : Int32) (x138 : Int32) (x139 : Int32) (x140 : Int32) (x141 : Int32) (x142 : Int32) (x143 : Int32) (s144 : Int32) (m_t_frees_145 : Int32) (m_t_slot__146 : Nat → Int32) (m_t_free__147 : Nat → Int32) (m_t_worth__148 : Nat → Int32) : Option (Int32 × (Nat → Int32) × (Nat → Int32) × (Nat → Int32)) :=
(if x138 = 0 then
(if x143 = 0 then
(fX10_plays_197 F t_stones t_told_ t_touches_ t_has_ t_beside_ p1 k22 k59 k114 x136 x137 s144 x139 x140 x141 x142 m_t_frees_145 m_t_slot__146 m_t_free__147 m_t_worth__148)
else
((fX10_step m_t_frees_145 x140).bind fun r162 =>
(if (x136 + (x142 * r162)) < 0 ∨ 262144 ≤ (x136 + (x142 * r162)).toNatClampNeg then none else
(if (m_t_worth__148 (x136 + (x142 * r162)).toNatClampNeg) = 0 then
(fX10_plays_193 F t_stones t_told_ t_touches_ t_has_ t_beside_ p1 k22 k59 k114 x136 x137 s144 x139 x140 x141 x142 m_t_frees_145 m_t_slot__146 m_t_free__147 m_t_worth__148)
else
(fX10_plays_197 F t_stones t_told_ t_touches_ t_has_ t_beside_ p1 k22 k59 k114 x136 x137 s144 x139 x140 x141 x142 m_t_frees_145 m_t_slot__146 m_t_free__147 m_t_worth__148)))))
else
(fX10_plays_193 F t_stones t_told_ t_touches_ t_has_ t_beside_ p1 k22 k59 k114 x136 x137 s144 x139 x140 x141 x142 m_t_frees_145 m_t_slot__146 m_t_free__147 m_t_worth__148))
def fX10_plays_161 (F : Nat) (t_stones : Int32) (t_told_ : Nat → Int32) (t_touches_ : Nat → Int32) (t_has_ : Nat → Int32) (t_beside_ : Nat → Int32) (p1 : Int32) (k22 : Int32 → Int32 → (Nat → Int32) → (Nat → Int32) → (Nat → Int32) → Option (Int32 × (Nat → Int32) × (Nat → Int32) × (Nat → Int32))) (k59 : Int32 → Int32 → Int32 → Int32 → Int32 → Int32 → Int32 → (Nat → Int32) → (Nat → Int32) → (Nat → Int32) → Option (Int32 × (Nat → Int32) × (Nat → Int32) × (Nat → Int32))) (k114 : Int32 → Int32 → Int32 → Int32 → Int32 → Int32 → Int32 → Int32 → Int32 → (Nat → Int32) → (Nat → Int32) → (Nat → Int32) → Option (Int32 × (Nat → Int32) × (Nat → Int32) × (Nat → Int32))) (x123 : Int32) (x124 : Int32) (x125 : Int32) (x126 : Int32) (x127 : Int32) (x128 : Int32) (x129 : Int32) (x130 : Int32) (m_t_frees_131 : Int32) (m_t_slot__132 : Nat → Int32) (m_t_free__133 : Nat → Int32) (m_t_worth__134 : Nat → Int32) : Option (Int32 × (Nat → Int32) × (Nat → Int32) × (Nat → Int32)) :=
(fX10_plays_162 F t_stones t_told_ t_touches_ t_has_ t_beside_ p1 k22 k59 k114 x123 x124 x125 x126 x127 x128 x129 x130 ((0 : Int32)) m_t_frees_131 m_t_slot__132 m_t_free__133 m_t_worth__134)
def bX10_plays_114 (F : Nat) (t_stones : Int32) (t_told_ : Nat → Int32) (t_touches_ : Nat → Int32) (t_has_ : Nat → Int32) (t_beside_ : Nat → Int32) (p1 : Int32) (k22 : Int32 → Int32 → (Nat → Int32) → (Nat → Int32) → (Nat → Int32) → Option (Int32 × (Nat → Int32) × (Nat → Int32) × (Nat → Int32))) (k59 : Int32 → Int32 → Int32 → Int32 → Int32 → Int32 → Int32 → (Nat → Int32) → (Nat → Int32) → (Nat → Int32) → Option (Int32 × (Nat → Int32) × (Nat → Int32) × (Nat → Int32))) (k114 : Int32 → Int32 → Int32 → Int32 → Int32 → Int32 → Int32 → Int32 → Int32 → (Nat → Int32) → (Nat → Int32) → (Nat → Int32) → Option (Int32 × (Nat → Int32) × (Nat → Int32) × (Nat → Int32))) (x100 : Int32) (x101 : Int32) (x102 : Int32) (x103 : Int32) (x104 : Int32) (x105 : Int32) (x106 : Int32) (x107 : Int32) (m_t_frees_108 : Int32) (m_t_slot__109 : Nat → Int32) (m_t_free__110 : Nat → Int32) (m_t_worth__111 : Nat → Int32) : Option (Int32 × (Nat → Int32) × (Nat → Int32) × (Nat → Int32)) :=
(if (t_told_ ((2 : Int32)).toNatClampNeg) < x107 then
(jl_let (x105 + Int32.ofInt (1)) fun v116 =>
(k59 x100 x101 x102 x103 x104 v116 m_t_frees_108 m_t_slot__109 m_t_free__110 m_t_worth__111))
else
(if x106 = 0 then
(jl_let (x105 + Int32.ofInt (1)) fun v118 =>
(k59 x100 x101 x102 x103 x104 v118 m_t_frees_108 m_t_slot__109 m_t_free__110 m_t_worth__111))
else
(if x105 < 0 ∨ 9 ≤ x105.toNatClampNeg then none else
((fX10_isMay F t_stones t_touches_ t_has_ t_beside_ m_t_slot__109 ((11 : Int32)) (m_t_free__110 x105.toNatClampNeg) x107).bind fun r120 =>
(if x102 = 0 then
(fX10_plays_161 F t_stones t_told_ t_touches_ t_has_ t_beside_ p1 k22 k59 k114 x100 x101 x103 x104 x105 x106 x107 r120 m_t_frees_108 m_t_slot__109 m_t_free__110 m_t_worth__111)
else
(if r120 = 0 then
(fX10_plays_162 F t_stones t_told_ t_touches_ t_has_ t_beside_ p1 k22 k59 k114 x100 x101 x103 x104 x105 x106 x107 r120 ((1 : Int32)) m_t_frees_108 m_t_slot__109 m_t_free__110 m_t_worth__111)
else
(fX10_plays_161 F t_stones t_told_ t_touches_ t_has_ t_beside_ p1 k22 k59 k114 x100 x101 x103 x104 x105 x106 x107 r120 m_t_frees_108 m_t_slot__109 m_t_free__110 m_t_worth__111)))))))
def lX10_plays_114 (F : Nat) (t_stones : Int32) (t_told_ : Nat → Int32) (t_touches_ : Nat → Int32) (t_has_ : Nat → Int32) (t_beside_ : Nat → Int32) (p1 : Int32) (k22 : Int32 → Int32 → (Nat → Int32) → (Nat → Int32) → (Nat → Int32) → Option (Int32 × (Nat → Int32) × (Nat → Int32) × (Nat → Int32))) (k59 : Int32 → Int32 → Int32 → Int32 → Int32 → Int32 → Int32 → (Nat → Int32) → (Nat → Int32) → (Nat → Int32) → Option (Int32 × (Nat → Int32) × (Nat → Int32) × (Nat → Int32))) (F2 : Nat) (x100 : Int32) (x101 : Int32) (x102 : Int32) (x103 : Int32) (x104 : Int32) (x105 : Int32) (x106 : Int32) (x107 : Int32) (m_t_frees_108 : Int32) (m_t_slot__109 : Nat → Int32) (m_t_free__110 : Nat → Int32) (m_t_worth__111 : Nat → Int32) : Option (Int32 × (Nat → Int32) × (Nat → Int32) × (Nat → Int32)) := jl_loop12 (bX10_plays_114 F t_stones t_told_ t_touches_ t_has_ t_beside_ p1 k22 k59) F2 x100 x101 x102 x103 x104 x105 x106 x107 m_t_frees_108 m_t_slot__109 m_t_free__110 m_t_worth__111
def fX10_plays_109 (F : Nat) (t_stones : Int32) (t_told_ : Nat → Int32) (t_touches_ : Nat → Int32) (t_has_ : Nat → Int32) (t_beside_ : Nat → Int32) (p1 : Int32) (k22 : Int32 → Int32 → (Nat → Int32) → (Nat → Int32) → (Nat → Int32) → Option (Int32 × (Nat → Int32) × (Nat → Int32) × (Nat → Int32))) (k59 : Int32 → Int32 → Int32 → Int32 → Int32 → Int32 → Int32 → (Nat → Int32) → (Nat → Int32) → (Nat → Int32) → Option (Int32 × (Nat → Int32) × (Nat → Int32) × (Nat → Int32))) (x79 : Int32) (x80 : Int32) (x81 : Int32) (x82 : Int32) (x83 : Int32) (x84 : Int32) (s85 : Int32) (m_t_frees_86 : Int32) (m_t_slot__87 : Nat → Int32) (m_t_free__88 : Nat → Int32) (m_t_worth__89 : Nat → Int32) : Option (Int32 × (Nat → Int32) × (Nat → Int32) × (Nat → Int32)) :=
(lX10_plays_114 F t_stones t_told_ t_touches_ t_has_ t_beside_ p1 k22 k59 F x79 x80 x81 x82 s85 x83 x84 ((1 : Int32)) m_t_frees_86 m_t_slot__87 m_t_free__88 m_t_worth__89)
def fX10_plays_108 (F : Nat) (t_stones : Int32) (t_told_ : Nat → Int32) (t_touches_ : Nat → Int32) (t_has_ : Nat → Int32) (t_beside_ : Nat → Int32) (p1 : Int32) (k22 : Int32 → Int32 → (Nat → Int32) → (Nat → Int32) → (Nat → Int32) → Option (Int32 × (Nat → Int32) × (Nat → Int32) × (Nat → Int32))) (k59 : Int32 → Int32 → Int32 → Int32 → Int32 → Int32 → Int32 → (Nat → Int32) → (Nat → Int32) → (Nat → Int32) → Option (Int32 × (Nat → Int32) × (Nat → Int32) × (Nat → Int32))) (x68 : Int32) (x69 : Int32) (x70 : Int32) (x71 : Int32) (x72 : Int32) (x73 : Int32) (m_t_frees_74 : Int32) (m_t_slot__75 : Nat → Int32) (m_t_free__76 : Nat → Int32) (m_t_worth__77 : Nat → Int32) : Option (Int32 × (Nat → Int32) × (Nat → Int32) × (Nat → Int32)) :=
(fX10_plays_109 F t_stones t_told_ t_touches_ t_has_ t_beside_ p1 k22 k59 x68 x69 x70 x71 x72 x73 ((0 : Int32)) m_t_frees_74 m_t_slot__75 m_t_free__76 m_t_worth__77)
def fX10_plays_92 (F : Nat) (t_stones : Int32) (t_told_ : Nat → Int32) (t_touches_ : Nat → Int32) (t_has_ : Nat → Int32) (t_beside_ : Nat → Int32) (p1 : Int32) (k22 : Int32 → Int32 → (Nat → Int32) → (Nat → Int32) → (Nat → Int32) → Option (Int32 × (Nat → Int32) × (Nat → Int32) × (Nat → Int32))) (k59 : Int32 → Int32 → Int32 → Int32 → Int32 → Int32 → Int32 → (Nat → Int32) → (Nat → Int32) → (Nat → Int32) → Option (Int32 × (Nat → Int32) × (Nat → Int32) × (Nat → Int32))) (x47 : Int32) (x48 : Int32) (x49 : Int32) (x50 : Int32) (x51 : Int32) (x52 : Int32) (s53 : Int32) (m_t_frees_54 : Int32) (m_t_slot__55 : Nat → Int32) (m_t_free__56 : Nat → Int32) (m_t_worth__57 : Nat → Int32) : Option (Int32 × (Nat → Int32) × (Nat → Int32) × (Nat → Int32)) :=
(if x51 = 0 then
(fX10_plays_108 F t_stones t_told_ t_touches_ t_has_ t_beside_ p1 k22 k59 x47 x48 x49 x50 x52 s53 m_t_frees_54 m_t_slot__55 m_t_free__56 m_t_worth__57)
else
(if s53 = 0 then
(fX10_plays_109 F t_stones t_told_ t_touches_ t_has_ t_beside_ p1 k22 k59 x47 x48 x49 x50 x52 s53 ((1 : Int32)) m_t_frees_54 m_t_slot__55 m_t_free__56 m_t_worth__57)
else
(fX10_plays_108 F t_stones t_told_ t_touches_ t_has_ t_beside_ p1 k22 k59 x47 x48 x49 x50 x52 s53 m_t_frees_54 m_t_slot__55 m_t_free__56 m_t_worth__57)))
def bX10_plays_59 (F : Nat) (t_stones : Int32) (t_told_ : Nat → Int32) (t_touches_ : Nat → Int32) (t_has_ : Nat → Int32) (t_beside_ : Nat → Int32) (p1 : Int32) (k22 : Int32 → Int32 → (Nat → Int32) → (Nat → Int32) → (Nat → Int32) → Option (Int32 × (Nat → Int32) × (Nat → Int32) × (Nat → Int32))) (k59 : Int32 → Int32 → Int32 → Int32 → Int32 → Int32 → Int32 → (Nat → Int32) → (Nat → Int32) → (Nat → Int32) → Option (Int32 × (Nat → Int32) × (Nat → Int32) × (Nat → Int32))) (x15 : Int32) (x16 : Int32) (x17 : Int32) (x18 : Int32) (x19 : Int32) (x20 : Int32) (m_t_frees_21 : Int32) (m_t_slot__22 : Nat → Int32) (m_t_free__23 : Nat → Int32) (m_t_worth__24 : Nat → Int32) : Option (Int32 × (Nat → Int32) × (Nat → Int32) × (Nat → Int32)) :=
(if m_t_frees_21 ≤ x20 then
(if p1 < 0 then
(fX10_plays_235 F t_stones t_told_ t_touches_ t_has_ t_beside_ p1 k22 x15 x17 x18 m_t_frees_21 m_t_slot__22 m_t_free__23 m_t_worth__24)
else
(if x16 = p1 then
(fX10_plays_228 F t_stones t_told_ t_touches_ t_has_ t_beside_ p1 k22 x15 x17 x18 ((1 : Int32)) x19 m_t_frees_21 m_t_slot__22 m_t_free__23 m_t_worth__24)
else
(fX10_plays_228 F t_stones t_told_ t_touches_ t_has_ t_beside_ p1 k22 x15 x17 x18 ((0 : Int32)) x19 m_t_frees_21 m_t_slot__22 m_t_free__23 m_t_worth__24)))
else
(if x20 < 0 ∨ 9 ≤ x20.toNatClampNeg then none else
(if (((220 : Int32)) + (m_t_free__23 x20.toNatClampNeg)) < 0 ∨ 240 ≤ (((220 : Int32)) + (m_t_free__23 x20.toNatClampNeg)).toNatClampNeg then none else
(if (m_t_slot__22 (((220 : Int32)) + (m_t_free__23 x20.toNatClampNeg)).toNatClampNeg) = 0 then
(fX10_plays_92 F t_stones t_told_ t_touches_ t_has_ t_beside_ p1 k22 k59 x15 x16 x17 x18 x19 x20 ((1 : Int32)) m_t_frees_21 m_t_slot__22 m_t_free__23 m_t_worth__24)
else
(fX10_plays_92 F t_stones t_told_ t_touches_ t_has_ t_beside_ p1 k22 k59 x15 x16 x17 x18 x19 x20 ((0 : Int32)) m_t_frees_21 m_t_slot__22 m_t_free__23 m_t_worth__24)))))
def lX10_plays_59 (F : Nat) (t_stones : Int32) (t_told_ : Nat → Int32) (t_touches_ : Nat → Int32) (t_has_ : Nat → Int32) (t_beside_ : Nat → Int32) (p1 : Int32) (k22 : Int32 → Int32 → (Nat → Int32) → (Nat → Int32) → (Nat → Int32) → Option (Int32 × (Nat → Int32) × (Nat → Int32) × (Nat → Int32))) (F2 : Nat) (x15 : Int32) (x16 : Int32) (x17 : Int32) (x18 : Int32) (x19 : Int32) (x20 : Int32) (m_t_frees_21 : Int32) (m_t_slot__22 : Nat → Int32) (m_t_free__23 : Nat → Int32) (m_t_worth__24 : Nat → Int32) : Option (Int32 × (Nat → Int32) × (Nat → Int32) × (Nat → Int32)) := jl_loop10 (bX10_plays_59 F t_stones t_told_ t_touches_ t_has_ t_beside_ p1 k22) F2 x15 x16 x17 x18 x19 x20 m_t_frees_21 m_t_slot__22 m_t_free__23 m_t_worth__24
def bX10_plays_22 (F : Nat) (t_stones : Int32) (t_told_ : Nat → Int32) (t_touches_ : Nat → Int32) (t_has_ : Nat → Int32) (t_beside_ : Nat → Int32) (p1 : Int32)  (k22 : Int32 → Int32 → (Nat → Int32) → (Nat → Int32) → (Nat → Int32) → Option (Int32 × (Nat → Int32) × (Nat → Int32) × (Nat → Int32))) (x6 : Int32) (m_t_frees_7 : Int32) (m_t_slot__8 : Nat → Int32) (m_t_free__9 : Nat → Int32) (m_t_worth__10 : Nat → Int32) : Option (Int32 × (Nat → Int32) × (Nat → Int32) × (Nat → Int32)) :=
(if x6 < 0 then
(some (m_t_frees_7, m_t_slot__8, m_t_free__9, m_t_worth__10))
else
((fX10_fills F m_t_frees_7 m_t_slot__8 m_t_free__9 x6 (m_t_slot__8 ((19 : Int32)).toNatClampNeg)).bind fun r12 =>
(jl_let (r12 ((239 : Int32)).toNatClampNeg) fun v14 =>
(lX10_plays_59 F t_stones t_told_ t_touches_ t_has_ t_beside_ p1 k22 F x6 v14 ((1 : Int32)) ((0 : Int32)) ((1 : Int32)) ((0 : Int32)) m_t_frees_7 r12 m_t_free__9 m_t_worth__10))))
def lX10_plays_22 (F : Nat) (t_stones : Int32) (t_told_ : Nat → Int32) (t_touches_ : Nat → Int32) (t_has_ : Nat → Int32) (t_beside_ : Nat → Int32) (p1 : Int32)  (F2 : Nat) (x6 : Int32) (m_t_frees_7 : Int32) (m_t_slot__8 : Nat → Int32) (m_t_free__9 : Nat → Int32) (m_t_worth__10 : Nat → Int32) : Option (Int32 × (Nat → Int32) × (Nat → Int32) × (Nat → Int32)) := jl_loop5 (bX10_plays_22 F t_stones t_told_ t_touches_ t_has_ t_beside_ p1 ) F2 x6 m_t_frees_7 m_t_slot__8 m_t_free__9 m_t_worth__10
def fX10_plays (F : Nat) (t_stones : Int32) (t_frees : Int32) (t_told_ : Nat → Int32) (t_touches_ : Nat → Int32) (t_has_ : Nat → Int32) (t_beside_ : Nat → Int32) (t_slot_ : Nat → Int32) (t_free_ : Nat → Int32) (t_worth_ : Nat → Int32) (p1 : Int32) : Option (Int32 × (Nat → Int32) × (Nat → Int32) × (Nat → Int32)) :=
((fX10_copies F t_slot_ ((0 : Int32)) ((11 : Int32))).bind fun r1 =>
((fX10_freed F t_stones t_frees r1 t_free_).bind fun r3 =>
(jl_let ((((1 : Int32)) <<< ((((2 : Int32)) * r3.1) &&& 31)) - ((1 : Int32))) fun v5 =>
(lX10_plays_22 F t_stones t_told_ t_touches_ t_has_ t_beside_ p1 F v5 r3.1 r1 r3.2 t_worth_))))
def oX10_plays (D : jv_D) (h_t : Nat) (h_t_text : Nat) (h_t_told : Nat) (h_t_touches : Nat) (h_t_has : Nat) (h_t_old : Nat) (h_t_beside : Nat) (h_t_slot : Nat) (h_t_row : Nat) (h_t_free : Nat) (h_t_worth : Nat) (h_t_fore : Nat) (h_t_back : Nat) (h_t_got : Nat) (t_length : Int32) (t_at : Int32) (t_stones : Int32) (t_kept : Int32) (t_done : Int32) (t_rows : Int32) (t_fewest : Int32) (t_told_ : Nat → Int32) (t_touches_ : Nat → Int32) (t_has_ : Nat → Int32) (t_beside_ : Nat → Int32) (r : Int32 × (Nat → Int32) × (Nat → Int32) × (Nat → Int32)) : va_W := [(h_t, .inr (8, [.int t_length, .ref h_t_text, .int t_at, .ref h_t_told, .ref h_t_touches, .ref h_t_has, .ref h_t_old, .ref h_t_beside, .int t_stones, .ref h_t_slot, .int t_kept, .int t_done, .int t_rows, .ref h_t_row, .ref h_t_free, .int r.1, .ref h_t_worth, .ref h_t_fore, .ref h_t_back, .int t_fewest, .ref h_t_got])), (h_t_told, jI D 8 t_told_), (h_t_touches, jZ D 32 t_touches_), (h_t_has, jI D 4 t_has_), (h_t_beside, jI D 9 t_beside_), (h_t_slot, jI D 240 r.2.1), (h_t_free, jI D 9 r.2.2.1), (h_t_worth, jB D 262144 r.2.2.2)]
set_option maxHeartbeats 40000000 in
set_option maxRecDepth 100000 in
theorem mX10_plays (l : Launch) (D : jv_D) (F : Nat) (h_t : Nat) (h_t_text : Nat) (h_t_told : Nat) (h_t_touches : Nat) (h_t_has : Nat) (h_t_old : Nat) (h_t_beside : Nat) (h_t_slot : Nat) (h_t_row : Nat) (h_t_free : Nat) (h_t_worth : Nat) (h_t_fore : Nat) (h_t_back : Nat) (h_t_got : Nat) (t_length : Int32) (t_at : Int32) (t_stones : Int32) (t_kept : Int32) (t_done : Int32) (t_rows : Int32) (t_frees : Int32) (t_fewest : Int32) (t_told_ : Nat → Int32) (t_touches_ : Nat → Int32) (t_has_ : Nat → Int32) (t_beside_ : Nat → Int32) (t_slot_ : Nat → Int32) (t_free_ : Nat → Int32) (t_worth_ : Nat → Int32) (p1 : Int32) (r : Int32 × (Nat → Int32) × (Nat → Int32) × (Nat → Int32)) (h : fX10_plays F t_stones t_frees t_told_ t_touches_ t_has_ t_beside_ t_slot_ t_free_ t_worth_ p1 = some r) : MM l yX10_plays (jW yX10_plays cX10_plays 11 none) ({ frames := 2, cells := 0, slots := 0, locals := 49 }) D [.ref h_t, .int p1] [(h_t, .inr (8, [.int t_length, .ref h_t_text, .int t_at, .ref h_t_told, .ref h_t_touches, .ref h_t_has, .ref h_t_old, .ref h_t_beside, .int t_stones, .ref h_t_slot, .int t_kept, .int t_done, .int t_rows, .ref h_t_row, .ref h_t_free, .int t_frees, .ref h_t_worth, .ref h_t_fore, .ref h_t_back, .int t_fewest, .ref h_t_got])), (h_t_told, jI D 8 t_told_), (h_t_touches, jZ D 32 t_touches_), (h_t_has, jI D 4 t_has_), (h_t_beside, jI D 9 t_beside_), (h_t_slot, jI D 240 t_slot_), (h_t_free, jI D 9 t_free_), (h_t_worth, jB D 262144 t_worth_)] none (oX10_plays D h_t h_t_text h_t_told h_t_touches h_t_has h_t_old h_t_beside h_t_slot h_t_row h_t_free h_t_worth h_t_fore h_t_back h_t_got t_length t_at t_stones t_kept t_done t_rows t_fewest t_told_ t_touches_ t_has_ t_beside_ r) := by
  refine mn_of hpX10_plays (Nat.le_of_ble_eq_true rfl) ?_
  intro X hXl C E0 hN
  subst hXl
  replace C : JC D X 11 RX10 cX10_plays ({ frames := 2, cells := 0, slots := 0, locals := 49 }) := C
  have E : JE D X 0 0 none (fun _ : Unit => none) (fun _ : Unit => (oX10_plays D h_t h_t_text h_t_told h_t_touches h_t_has h_t_old h_t_beside h_t_slot h_t_row h_t_free h_t_worth h_t_fore h_t_back h_t_got t_length t_at t_stones t_kept t_done t_rows t_fewest t_told_ t_touches_ t_has_ t_beside_ r)) := E0 0 0 rfl rfl
  clear E0 hN
  show JJ D X 11 0 0 0 [(0, .ref h_t), (1, .int p1)] [] [(h_t, .inr (8, [.int t_length, .ref h_t_text, .int t_at, .ref h_t_told, .ref h_t_touches, .ref h_t_has, .ref h_t_old, .ref h_t_beside, .int t_stones, .ref h_t_slot, .int t_kept, .int t_done, .int t_rows, .ref h_t_row, .ref h_t_free, .int t_frees, .ref h_t_worth, .ref h_t_fore, .ref h_t_back, .int t_fewest, .ref h_t_got])), (h_t_told, jI D 8 t_told_), (h_t_touches, jZ D 32 t_touches_), (h_t_has, jI D 4 t_has_), (h_t_beside, jI D 9 t_beside_), (h_t_slot, jI D 240 t_slot_), (h_t_free, jI D 9 t_free_), (h_t_worth, jB D 262144 t_worth_)]
  unfold fX10_plays at h
  have L22 : ∀ (x6 : Int32) (m_t_frees_7 : Int32) (m_t_slot__8 : Nat → Int32) (m_t_free__9 : Nat → Int32) (m_t_worth__10 : Nat → Int32), lX10_plays_22 F t_stones t_told_ t_touches_ t_has_ t_beside_ p1  F x6 m_t_frees_7 m_t_slot__8 m_t_free__9 m_t_worth__10 = some r → JJ D X 11 0 0 22 [(0, .ref h_t), (1, .int p1), (2, .int x6)] [] [(h_t, .inr (8, [.int t_length, .ref h_t_text, .int t_at, .ref h_t_told, .ref h_t_touches, .ref h_t_has, .ref h_t_old, .ref h_t_beside, .int t_stones, .ref h_t_slot, .int t_kept, .int t_done, .int t_rows, .ref h_t_row, .ref h_t_free, .int m_t_frees_7, .ref h_t_worth, .ref h_t_fore, .ref h_t_back, .int t_fewest, .ref h_t_got])), (h_t_told, jI D 8 t_told_), (h_t_touches, jZ D 32 t_touches_), (h_t_has, jI D 4 t_has_), (h_t_beside, jI D 9 t_beside_), (h_t_slot, jI D 240 m_t_slot__8), (h_t_free, jI D 9 m_t_free__9), (h_t_worth, jB D 262144 m_t_worth__10)] := by
    intro x6 m_t_frees_7 m_t_slot__8 m_t_free__9 m_t_worth__10 h
    refine jl_ind5 (fun x6 m_t_frees_7 m_t_slot__8 m_t_free__9 m_t_worth__10 => JJ D X 11 0 0 22 [(0, .ref h_t), (1, .int p1), (2, .int x6)] [] [(h_t, .inr (8, [.int t_length, .ref h_t_text, .int t_at, .ref h_t_told, .ref h_t_touches, .ref h_t_has, .ref h_t_old, .ref h_t_beside, .int t_stones, .ref h_t_slot, .int t_kept, .int t_done, .int t_rows, .ref h_t_row, .ref h_t_free, .int m_t_frees_7, .ref h_t_worth, .ref h_t_fore, .ref h_t_back, .int t_fewest, .ref h_t_got])), (h_t_told, jI D 8 t_told_), (h_t_touches, jZ D 32 t_touches_), (h_t_has, jI D 4 t_has_), (h_t_beside, jI D 9 t_beside_), (h_t_slot, jI D 240 m_t_slot__8), (h_t_free, jI D 9 m_t_free__9), (h_t_worth, jB D 262144 m_t_worth__10)]) ?_ F x6 m_t_frees_7 m_t_slot__8 m_t_free__9 m_t_worth__10 h
    clear h x6 m_t_frees_7 m_t_slot__8 m_t_free__9 m_t_worth__10
    intro k22 i22 x6 m_t_frees_7 m_t_slot__8 m_t_free__9 m_t_worth__10 h
    replace i22 : ∀ (x6 : Int32) (m_t_frees_7 : Int32) (m_t_slot__8 : Nat → Int32) (m_t_free__9 : Nat → Int32) (m_t_worth__10 : Nat → Int32), k22 x6 m_t_frees_7 m_t_slot__8 m_t_free__9 m_t_worth__10 = some r → JJ D X 11 0 0 22 [(0, .ref h_t), (1, .int p1), (2, .int x6)] [] [(h_t, .inr (8, [.int t_length, .ref h_t_text, .int t_at, .ref h_t_told, .ref h_t_touches, .ref h_t_has, .ref h_t_old, .ref h_t_beside, .int t_stones, .ref h_t_slot, .int t_kept, .int t_done, .int t_rows, .ref h_t_row, .ref h_t_free, .int m_t_frees_7, .ref h_t_worth, .ref h_t_fore, .ref h_t_back, .int t_fewest, .ref h_t_got])), (h_t_told, jI D 8 t_told_), (h_t_touches, jZ D 32 t_touches_), (h_t_has, jI D 4 t_has_), (h_t_beside, jI D 9 t_beside_), (h_t_slot, jI D 240 m_t_slot__8), (h_t_free, jI D 9 m_t_free__9), (h_t_worth, jB D 262144 m_t_worth__10)] := i22
    show JJ D X 11 0 0 22 [(0, .ref h_t), (1, .int p1), (2, .int x6)] [] [(h_t, .inr (8, [.int t_length, .ref h_t_text, .int t_at, .ref h_t_told, .ref h_t_touches, .ref h_t_has, .ref h_t_old, .ref h_t_beside, .int t_stones, .ref h_t_slot, .int t_kept, .int t_done, .int t_rows, .ref h_t_row, .ref h_t_free, .int m_t_frees_7, .ref h_t_worth, .ref h_t_fore, .ref h_t_back, .int t_fewest, .ref h_t_got])), (h_t_told, jI D 8 t_told_), (h_t_touches, jZ D 32 t_touches_), (h_t_has, jI D 4 t_has_), (h_t_beside, jI D 9 t_beside_), (h_t_slot, jI D 240 m_t_slot__8), (h_t_free, jI D 9 m_t_free__9), (h_t_worth, jB D 262144 m_t_worth__10)]
    unfold bX10_plays_22 at h
    have L271 : ∀ (x92 : Int32) (s93 : Int32) (s94 : Int32) (m_t_frees_95 : Int32) (m_t_slot__96 : Nat → Int32) (m_t_free__97 : Nat → Int32) (m_t_worth__98 : Nat → Int32), fX10_plays_271 F t_stones t_told_ t_touches_ t_has_ t_beside_ p1 k22 x92 s93 s94 m_t_frees_95 m_t_slot__96 m_t_free__97 m_t_worth__98 = some r → JJ D X 11 0 0 271 [(0, .ref h_t), (1, .int p1), (2, .int x92)] [.int s93, .int s94, .ref h_t_worth] [(h_t, .inr (8, [.int t_length, .ref h_t_text, .int t_at, .ref h_t_told, .ref h_t_touches, .ref h_t_has, .ref h_t_old, .ref h_t_beside, .int t_stones, .ref h_t_slot, .int t_kept, .int t_done, .int t_rows, .ref h_t_row, .ref h_t_free, .int m_t_frees_95, .ref h_t_worth, .ref h_t_fore, .ref h_t_back, .int t_fewest, .ref h_t_got])), (h_t_told, jI D 8 t_told_), (h_t_touches, jZ D 32 t_touches_), (h_t_has, jI D 4 t_has_), (h_t_beside, jI D 9 t_beside_), (h_t_slot, jI D 240 m_t_slot__96), (h_t_free, jI D 9 m_t_free__97), (h_t_worth, jB D 262144 m_t_worth__98)] := by
      intro x92 s93 s94 m_t_frees_95 m_t_slot__96 m_t_free__97 m_t_worth__98 h
      unfold fX10_plays_271 at h
      refine j_i2b C dX10_plays_271 ?_
      refine jl_inb h (fun b112 h => ?_)
      refine j_bast C 7 rfl b112 dX10_plays_272 (ws' := fun g113 => [(h_t, .inr (8, [.int t_length, .ref h_t_text, .int t_at, .ref h_t_told, .ref h_t_touches, .ref h_t_has, .ref h_t_old, .ref h_t_beside, .int t_stones, .ref h_t_slot, .int t_kept, .int t_done, .int t_rows, .ref h_t_row, .ref h_t_free, .int m_t_frees_95, .ref h_t_worth, .ref h_t_fore, .ref h_t_back, .int t_fewest, .ref h_t_got])), (h_t_told, jI D 8 t_told_), (h_t_touches, jZ D 32 t_touches_), (h_t_has, jI D 4 t_has_), (h_t_beside, jI D 9 t_beside_), (h_t_slot, jI D 240 m_t_slot__96), (h_t_free, jI D 9 m_t_free__97), (h_t_worth, jB D 262144 g113)]) (fun _ => rfl) h (fun g113 h => ?_)
      refine j_iinc C dX10_plays_273 2 rfl (lv' := fun v114 => [(2, .int v114), (0, .ref h_t), (1, .int p1)]) (by decide) (fun _ => rfl) h (fun v114 h => ?_)
      refine j_goto C dX10_plays_276 (tgt := 22) (by decide) ?_
      refine j_sub (lv' := [(0, .ref h_t), (1, .int p1), (2, .int v114)]) [1, 2, 0] rfl ?_
      exact i22 v114 m_t_frees_95 m_t_slot__96 m_t_free__97 g113 h
    have L236 : ∀ (x58 : Int32) (x59 : Int32) (x60 : Int32) (s61 : Int32) (m_t_frees_62 : Int32) (m_t_slot__63 : Nat → Int32) (m_t_free__64 : Nat → Int32) (m_t_worth__65 : Nat → Int32), fX10_plays_236 F t_stones t_told_ t_touches_ t_has_ t_beside_ p1 k22 x58 x59 x60 s61 m_t_frees_62 m_t_slot__63 m_t_free__64 m_t_worth__65 = some r → JJ D X 11 0 0 236 [(0, .ref h_t), (1, .int p1), (2, .int x58), (4, .int x59), (5, .int x60)] [.int s61] [(h_t, .inr (8, [.int t_length, .ref h_t_text, .int t_at, .ref h_t_told, .ref h_t_touches, .ref h_t_has, .ref h_t_old, .ref h_t_beside, .int t_stones, .ref h_t_slot, .int t_kept, .int t_done, .int t_rows, .ref h_t_row, .ref h_t_free, .int m_t_frees_62, .ref h_t_worth, .ref h_t_fore, .ref h_t_back, .int t_fewest, .ref h_t_got])), (h_t_told, jI D 8 t_told_), (h_t_touches, jZ D 32 t_touches_), (h_t_has, jI D 4 t_has_), (h_t_beside, jI D 9 t_beside_), (h_t_slot, jI D 240 m_t_slot__63), (h_t_free, jI D 9 m_t_free__64), (h_t_worth, jB D 262144 m_t_worth__65)] := by
      intro x58 x59 x60 s61 m_t_frees_62 m_t_slot__63 m_t_free__64 m_t_worth__65 h
      unfold fX10_plays_236 at h
      refine j_istoreC C dX10_plays_236 (lv' := [(7, .int s61), (0, .ref h_t), (1, .int p1), (2, .int x58), (4, .int x59), (5, .int x60)]) (by decide) rfl ?_
      refine j_aload_n C dX10_plays_238 rfl 1 rfl ?_
      refine j_get C ibX10 (ci := 8) 0 rfl rfl 16 (by decide) bfX10_40 (v := .ref h_t_worth) rfl dX10_plays_239 ?_
      refine j_iload_n C dX10_plays_242 rfl 3 rfl ?_
      refine j_iload C dX10_plays_243 4 rfl ?_
      refine j_if_eq C (tgt := 261) dX10_plays_245 (by decide) h (fun c90 h => ?_) (fun c90 h => ?_)
      · refine j_iload C dX10_plays_261 5 rfl ?_
        refine j_if_eq C (tgt := 270) dX10_plays_263 (by decide) h (fun c91 h => ?_) (fun c91 h => ?_)
        · refine j_iconst C dX10_plays_270 (v := (0 : Int32)) (by decide) ?_
          refine j_sub (lv' := [(0, .ref h_t), (1, .int p1), (2, .int x58)]) [1, 2, 3] rfl ?_
          exact L271 x58 ((0 : Int32)) x58 m_t_frees_62 m_t_slot__63 m_t_free__64 m_t_worth__65 h
        · refine j_iconst C dX10_plays_266 (v := (1 : Int32)) (by decide) ?_
          refine j_goto C dX10_plays_267 (tgt := 271) (by decide) ?_
          refine j_sub (lv' := [(0, .ref h_t), (1, .int p1), (2, .int x58)]) [1, 2, 3] rfl ?_
          exact L271 x58 ((1 : Int32)) x58 m_t_frees_62 m_t_slot__63 m_t_free__64 m_t_worth__65 h
      · refine j_iload C dX10_plays_248 0 rfl ?_
        refine j_if_eq C (tgt := 257) dX10_plays_250 (by decide) h (fun c99 h => ?_) (fun c99 h => ?_)
        · refine j_iconst C dX10_plays_257 (v := (0 : Int32)) (by decide) ?_
          refine j_goto C dX10_plays_258 (tgt := 271) (by decide) ?_
          refine j_sub (lv' := [(0, .ref h_t), (1, .int p1), (2, .int x58)]) [1, 2, 3] rfl ?_
          exact L271 x58 ((0 : Int32)) x58 m_t_frees_62 m_t_slot__63 m_t_free__64 m_t_worth__65 h
        · refine j_iconst C dX10_plays_253 (v := (1 : Int32)) (by decide) ?_
          refine j_goto C dX10_plays_254 (tgt := 271) (by decide) ?_
          refine j_sub (lv' := [(0, .ref h_t), (1, .int p1), (2, .int x58)]) [1, 2, 3] rfl ?_
          exact L271 x58 ((1 : Int32)) x58 m_t_frees_62 m_t_slot__63 m_t_free__64 m_t_worth__65 h
    have L235 : ∀ (x27 : Int32) (x28 : Int32) (x29 : Int32) (m_t_frees_30 : Int32) (m_t_slot__31 : Nat → Int32) (m_t_free__32 : Nat → Int32) (m_t_worth__33 : Nat → Int32), fX10_plays_235 F t_stones t_told_ t_touches_ t_has_ t_beside_ p1 k22 x27 x28 x29 m_t_frees_30 m_t_slot__31 m_t_free__32 m_t_worth__33 = some r → JJ D X 11 0 0 235 [(0, .ref h_t), (1, .int p1), (2, .int x27), (4, .int x28), (5, .int x29)] [] [(h_t, .inr (8, [.int t_length, .ref h_t_text, .int t_at, .ref h_t_told, .ref h_t_touches, .ref h_t_has, .ref h_t_old, .ref h_t_beside, .int t_stones, .ref h_t_slot, .int t_kept, .int t_done, .int t_rows, .ref h_t_row, .ref h_t_free, .int m_t_frees_30, .ref h_t_worth, .ref h_t_fore, .ref h_t_back, .int t_fewest, .ref h_t_got])), (h_t_told, jI D 8 t_told_), (h_t_touches, jZ D 32 t_touches_), (h_t_has, jI D 4 t_has_), (h_t_beside, jI D 9 t_beside_), (h_t_slot, jI D 240 m_t_slot__31), (h_t_free, jI D 9 m_t_free__32), (h_t_worth, jB D 262144 m_t_worth__33)] := by
      intro x27 x28 x29 m_t_frees_30 m_t_slot__31 m_t_free__32 m_t_worth__33 h
      unfold fX10_plays_235 at h
      refine j_iconst C dX10_plays_235 (v := (0 : Int32)) (by decide) ?_
      refine j_sub (lv' := [(0, .ref h_t), (1, .int p1), (2, .int x27), (4, .int x28), (5, .int x29)]) [0, 1, 2, 3, 4] rfl ?_
      exact L236 x27 x28 x29 ((0 : Int32)) m_t_frees_30 m_t_slot__31 m_t_free__32 m_t_worth__33 h
    have L228 : ∀ (x35 : Int32) (x36 : Int32) (x37 : Int32) (s38 : Int32) (s39 : Int32) (m_t_frees_40 : Int32) (m_t_slot__41 : Nat → Int32) (m_t_free__42 : Nat → Int32) (m_t_worth__43 : Nat → Int32), fX10_plays_228 F t_stones t_told_ t_touches_ t_has_ t_beside_ p1 k22 x35 x36 x37 s38 s39 m_t_frees_40 m_t_slot__41 m_t_free__42 m_t_worth__43 = some r → JJ D X 11 0 0 228 [(0, .ref h_t), (1, .int p1), (2, .int x35), (4, .int x36), (5, .int x37)] [.int s38, .int s39] [(h_t, .inr (8, [.int t_length, .ref h_t_text, .int t_at, .ref h_t_told, .ref h_t_touches, .ref h_t_has, .ref h_t_old, .ref h_t_beside, .int t_stones, .ref h_t_slot, .int t_kept, .int t_done, .int t_rows, .ref h_t_row, .ref h_t_free, .int m_t_frees_40, .ref h_t_worth, .ref h_t_fore, .ref h_t_back, .int t_fewest, .ref h_t_got])), (h_t_told, jI D 8 t_told_), (h_t_touches, jZ D 32 t_touches_), (h_t_has, jI D 4 t_has_), (h_t_beside, jI D 9 t_beside_), (h_t_slot, jI D 240 m_t_slot__41), (h_t_free, jI D 9 m_t_free__42), (h_t_worth, jB D 262144 m_t_worth__43)] := by
      intro x35 x36 x37 s38 s39 m_t_frees_40 m_t_slot__41 m_t_free__42 m_t_worth__43 h
      unfold fX10_plays_228 at h
      refine j_icmp_ne C (tgt := 235) dX10_plays_228 (by decide) h (fun c66 h => ?_) (fun c66 h => ?_)
      · refine j_iconst C dX10_plays_231 (v := (1 : Int32)) (by decide) ?_
        refine j_goto C dX10_plays_232 (tgt := 236) (by decide) ?_
        refine j_sub (lv' := [(0, .ref h_t), (1, .int p1), (2, .int x35), (4, .int x36), (5, .int x37)]) [0, 1, 2, 3, 4] rfl ?_
        exact L236 x35 x36 x37 ((1 : Int32)) m_t_frees_40 m_t_slot__41 m_t_free__42 m_t_worth__43 h
      · refine j_sub (lv' := [(0, .ref h_t), (1, .int p1), (2, .int x35), (4, .int x36), (5, .int x37)]) [0, 1, 2, 3, 4] rfl ?_
        exact L235 x35 x36 x37 m_t_frees_40 m_t_slot__41 m_t_free__42 m_t_worth__43 h
    have L59 : ∀ (x15 : Int32) (x16 : Int32) (x17 : Int32) (x18 : Int32) (x19 : Int32) (x20 : Int32) (m_t_frees_21 : Int32) (m_t_slot__22 : Nat → Int32) (m_t_free__23 : Nat → Int32) (m_t_worth__24 : Nat → Int32), lX10_plays_59 F t_stones t_told_ t_touches_ t_has_ t_beside_ p1 k22 F x15 x16 x17 x18 x19 x20 m_t_frees_21 m_t_slot__22 m_t_free__23 m_t_worth__24 = some r → JJ D X 11 0 0 59 [(0, .ref h_t), (1, .int p1), (2, .int x15), (3, .int x16), (4, .int x17), (5, .int x18), (6, .int x19), (7, .int x20)] [] [(h_t, .inr (8, [.int t_length, .ref h_t_text, .int t_at, .ref h_t_told, .ref h_t_touches, .ref h_t_has, .ref h_t_old, .ref h_t_beside, .int t_stones, .ref h_t_slot, .int t_kept, .int t_done, .int t_rows, .ref h_t_row, .ref h_t_free, .int m_t_frees_21, .ref h_t_worth, .ref h_t_fore, .ref h_t_back, .int t_fewest, .ref h_t_got])), (h_t_told, jI D 8 t_told_), (h_t_touches, jZ D 32 t_touches_), (h_t_has, jI D 4 t_has_), (h_t_beside, jI D 9 t_beside_), (h_t_slot, jI D 240 m_t_slot__22), (h_t_free, jI D 9 m_t_free__23), (h_t_worth, jB D 262144 m_t_worth__24)] := by
      intro x15 x16 x17 x18 x19 x20 m_t_frees_21 m_t_slot__22 m_t_free__23 m_t_worth__24 h
      refine jl_ind10 (fun x15 x16 x17 x18 x19 x20 m_t_frees_21 m_t_slot__22 m_t_free__23 m_t_worth__24 => JJ D X 11 0 0 59 [(0, .ref h_t), (1, .int p1), (2, .int x15), (3, .int x16), (4, .int x17), (5, .int x18), (6, .int x19), (7, .int x20)] [] [(h_t, .inr (8, [.int t_length, .ref h_t_text, .int t_at, .ref h_t_told, .ref h_t_touches, .ref h_t_has, .ref h_t_old, .ref h_t_beside, .int t_stones, .ref h_t_slot, .int t_kept, .int t_done, .int t_rows, .ref h_t_row, .ref h_t_free, .int m_t_frees_21, .ref h_t_worth, .ref h_t_fore, .ref h_t_back, .int t_fewest, .ref h_t_got])), (h_t_told, jI D 8 t_told_), (h_t_touches, jZ D 32 t_touches_), (h_t_has, jI D 4 t_has_), (h_t_beside, jI D 9 t_beside_), (h_t_slot, jI D 240 m_t_slot__22), (h_t_free, jI D 9 m_t_free__23), (h_t_worth, jB D 262144 m_t_worth__24)]) ?_ F x15 x16 x17 x18 x19 x20 m_t_frees_21 m_t_slot__22 m_t_free__23 m_t_worth__24 h
      clear h x15 x16 x17 x18 x19 x20 m_t_frees_21 m_t_slot__22 m_t_free__23 m_t_worth__24
      intro k59 i59 x15 x16 x17 x18 x19 x20 m_t_frees_21 m_t_slot__22 m_t_free__23 m_t_worth__24 h
      replace i59 : ∀ (x15 : Int32) (x16 : Int32) (x17 : Int32) (x18 : Int32) (x19 : Int32) (x20 : Int32) (m_t_frees_21 : Int32) (m_t_slot__22 : Nat → Int32) (m_t_free__23 : Nat → Int32) (m_t_worth__24 : Nat → Int32), k59 x15 x16 x17 x18 x19 x20 m_t_frees_21 m_t_slot__22 m_t_free__23 m_t_worth__24 = some r → JJ D X 11 0 0 59 [(0, .ref h_t), (1, .int p1), (2, .int x15), (3, .int x16), (4, .int x17), (5, .int x18), (6, .int x19), (7, .int x20)] [] [(h_t, .inr (8, [.int t_length, .ref h_t_text, .int t_at, .ref h_t_told, .ref h_t_touches, .ref h_t_has, .ref h_t_old, .ref h_t_beside, .int t_stones, .ref h_t_slot, .int t_kept, .int t_done, .int t_rows, .ref h_t_row, .ref h_t_free, .int m_t_frees_21, .ref h_t_worth, .ref h_t_fore, .ref h_t_back, .int t_fewest, .ref h_t_got])), (h_t_told, jI D 8 t_told_), (h_t_touches, jZ D 32 t_touches_), (h_t_has, jI D 4 t_has_), (h_t_beside, jI D 9 t_beside_), (h_t_slot, jI D 240 m_t_slot__22), (h_t_free, jI D 9 m_t_free__23), (h_t_worth, jB D 262144 m_t_worth__24)] := i59
      show JJ D X 11 0 0 59 [(0, .ref h_t), (1, .int p1), (2, .int x15), (3, .int x16), (4, .int x17), (5, .int x18), (6, .int x19), (7, .int x20)] [] [(h_t, .inr (8, [.int t_length, .ref h_t_text, .int t_at, .ref h_t_told, .ref h_t_touches, .ref h_t_has, .ref h_t_old, .ref h_t_beside, .int t_stones, .ref h_t_slot, .int t_kept, .int t_done, .int t_rows, .ref h_t_row, .ref h_t_free, .int m_t_frees_21, .ref h_t_worth, .ref h_t_fore, .ref h_t_back, .int t_fewest, .ref h_t_got])), (h_t_told, jI D 8 t_told_), (h_t_touches, jZ D 32 t_touches_), (h_t_has, jI D 4 t_has_), (h_t_beside, jI D 9 t_beside_), (h_t_slot, jI D 240 m_t_slot__22), (h_t_free, jI D 9 m_t_free__23), (h_t_worth, jB D 262144 m_t_worth__24)]
      unfold bX10_plays_59 at h
      have L114 : ∀ (x100 : Int32) (x101 : Int32) (x102 : Int32) (x103 : Int32) (x104 : Int32) (x105 : Int32) (x106 : Int32) (x107 : Int32) (m_t_frees_108 : Int32) (m_t_slot__109 : Nat → Int32) (m_t_free__110 : Nat → Int32) (m_t_worth__111 : Nat → Int32), lX10_plays_114 F t_stones t_told_ t_touches_ t_has_ t_beside_ p1 k22 k59 F x100 x101 x102 x103 x104 x105 x106 x107 m_t_frees_108 m_t_slot__109 m_t_free__110 m_t_worth__111 = some r → JJ D X 11 0 0 114 [(0, .ref h_t), (1, .int p1), (2, .int x100), (3, .int x101), (4, .int x102), (5, .int x103), (6, .int x104), (7, .int x105), (8, .int x106), (9, .int x107)] [] [(h_t, .inr (8, [.int t_length, .ref h_t_text, .int t_at, .ref h_t_told, .ref h_t_touches, .ref h_t_has, .ref h_t_old, .ref h_t_beside, .int t_stones, .ref h_t_slot, .int t_kept, .int t_done, .int t_rows, .ref h_t_row, .ref h_t_free, .int m_t_frees_108, .ref h_t_worth, .ref h_t_fore, .ref h_t_back, .int t_fewest, .ref h_t_got])), (h_t_told, jI D 8 t_told_), (h_t_touches, jZ D 32 t_touches_), (h_t_has, jI D 4 t_has_), (h_t_beside, jI D 9 t_beside_), (h_t_slot, jI D 240 m_t_slot__109), (h_t_free, jI D 9 m_t_free__110), (h_t_worth, jB D 262144 m_t_worth__111)] := by
        intro x100 x101 x102 x103 x104 x105 x106 x107 m_t_frees_108 m_t_slot__109 m_t_free__110 m_t_worth__111 h
        refine jl_ind12 (fun x100 x101 x102 x103 x104 x105 x106 x107 m_t_frees_108 m_t_slot__109 m_t_free__110 m_t_worth__111 => JJ D X 11 0 0 114 [(0, .ref h_t), (1, .int p1), (2, .int x100), (3, .int x101), (4, .int x102), (5, .int x103), (6, .int x104), (7, .int x105), (8, .int x106), (9, .int x107)] [] [(h_t, .inr (8, [.int t_length, .ref h_t_text, .int t_at, .ref h_t_told, .ref h_t_touches, .ref h_t_has, .ref h_t_old, .ref h_t_beside, .int t_stones, .ref h_t_slot, .int t_kept, .int t_done, .int t_rows, .ref h_t_row, .ref h_t_free, .int m_t_frees_108, .ref h_t_worth, .ref h_t_fore, .ref h_t_back, .int t_fewest, .ref h_t_got])), (h_t_told, jI D 8 t_told_), (h_t_touches, jZ D 32 t_touches_), (h_t_has, jI D 4 t_has_), (h_t_beside, jI D 9 t_beside_), (h_t_slot, jI D 240 m_t_slot__109), (h_t_free, jI D 9 m_t_free__110), (h_t_worth, jB D 262144 m_t_worth__111)]) ?_ F x100 x101 x102 x103 x104 x105 x106 x107 m_t_frees_108 m_t_slot__109 m_t_free__110 m_t_worth__111 h
        clear h x100 x101 x102 x103 x104 x105 x106 x107 m_t_frees_108 m_t_slot__109 m_t_free__110 m_t_worth__111
        intro k114 i114 x100 x101 x102 x103 x104 x105 x106 x107 m_t_frees_108 m_t_slot__109 m_t_free__110 m_t_worth__111 h
        replace i114 : ∀ (x100 : Int32) (x101 : Int32) (x102 : Int32) (x103 : Int32) (x104 : Int32) (x105 : Int32) (x106 : Int32) (x107 : Int32) (m_t_frees_108 : Int32) (m_t_slot__109 : Nat → Int32) (m_t_free__110 : Nat → Int32) (m_t_worth__111 : Nat → Int32), k114 x100 x101 x102 x103 x104 x105 x106 x107 m_t_frees_108 m_t_slot__109 m_t_free__110 m_t_worth__111 = some r → JJ D X 11 0 0 114 [(0, .ref h_t), (1, .int p1), (2, .int x100), (3, .int x101), (4, .int x102), (5, .int x103), (6, .int x104), (7, .int x105), (8, .int x106), (9, .int x107)] [] [(h_t, .inr (8, [.int t_length, .ref h_t_text, .int t_at, .ref h_t_told, .ref h_t_touches, .ref h_t_has, .ref h_t_old, .ref h_t_beside, .int t_stones, .ref h_t_slot, .int t_kept, .int t_done, .int t_rows, .ref h_t_row, .ref h_t_free, .int m_t_frees_108, .ref h_t_worth, .ref h_t_fore, .ref h_t_back, .int t_fewest, .ref h_t_got])), (h_t_told, jI D 8 t_told_), (h_t_touches, jZ D 32 t_touches_), (h_t_has, jI D 4 t_has_), (h_t_beside, jI D 9 t_beside_), (h_t_slot, jI D 240 m_t_slot__109), (h_t_free, jI D 9 m_t_free__110), (h_t_worth, jB D 262144 m_t_worth__111)] := i114
        show JJ D X 11 0 0 114 [(0, .ref h_t), (1, .int p1), (2, .int x100), (3, .int x101), (4, .int x102), (5, .int x103), (6, .int x104), (7, .int x105), (8, .int x106), (9, .int x107)] [] [(h_t, .inr (8, [.int t_length, .ref h_t_text, .int t_at, .ref h_t_told, .ref h_t_touches, .ref h_t_has, .ref h_t_old, .ref h_t_beside, .int t_stones, .ref h_t_slot, .int t_kept, .int t_done, .int t_rows, .ref h_t_row, .ref h_t_free, .int m_t_frees_108, .ref h_t_worth, .ref h_t_fore, .ref h_t_back, .int t_fewest, .ref h_t_got])), (h_t_told, jI D 8 t_told_), (h_t_touches, jZ D 32 t_touches_), (h_t_has, jI D 4 t_has_), (h_t_beside, jI D 9 t_beside_), (h_t_slot, jI D 240 m_t_slot__109), (h_t_free, jI D 9 m_t_free__110), (h_t_worth, jB D 262144 m_t_worth__111)]
        unfold bX10_plays_114 at h
        have L198 : ∀ (x177 : Int32) (x178 : Int32) (x179 : Int32) (x180 : Int32) (x181 : Int32) (x182 : Int32) (x183 : Int32) (s184 : Int32) (m_t_frees_185 : Int32) (m_t_slot__186 : Nat → Int32) (m_t_free__187 : Nat → Int32) (m_t_worth__188 : Nat → Int32), fX10_plays_198 F t_stones t_told_ t_touches_ t_has_ t_beside_ p1 k22 k59 k114 x177 x178 x179 x180 x181 x182 x183 s184 m_t_frees_185 m_t_slot__186 m_t_free__187 m_t_worth__188 = some r → JJ D X 11 0 0 198 [(0, .ref h_t), (1, .int p1), (2, .int x177), (3, .int x178), (4, .int x179), (6, .int x180), (7, .int x181), (8, .int x182), (9, .int x183)] [.int s184] [(h_t, .inr (8, [.int t_length, .ref h_t_text, .int t_at, .ref h_t_told, .ref h_t_touches, .ref h_t_has, .ref h_t_old, .ref h_t_beside, .int t_stones, .ref h_t_slot, .int t_kept, .int t_done, .int t_rows, .ref h_t_row, .ref h_t_free, .int m_t_frees_185, .ref h_t_worth, .ref h_t_fore, .ref h_t_back, .int t_fewest, .ref h_t_got])), (h_t_told, jI D 8 t_told_), (h_t_touches, jZ D 32 t_touches_), (h_t_has, jI D 4 t_has_), (h_t_beside, jI D 9 t_beside_), (h_t_slot, jI D 240 m_t_slot__186), (h_t_free, jI D 9 m_t_free__187), (h_t_worth, jB D 262144 m_t_worth__188)] := by
          intro x177 x178 x179 x180 x181 x182 x183 s184 m_t_frees_185 m_t_slot__186 m_t_free__187 m_t_worth__188 h
          unfold fX10_plays_198 at h
          refine j_istoreC C dX10_plays_198 (lv' := [(5, .int s184), (0, .ref h_t), (1, .int p1), (2, .int x177), (3, .int x178), (4, .int x179), (6, .int x180), (7, .int x181), (8, .int x182), (9, .int x183)]) (by decide) rfl ?_
          refine j_iinc C dX10_plays_200 9 rfl (lv' := fun v189 => [(9, .int v189), (5, .int s184), (0, .ref h_t), (1, .int p1), (2, .int x177), (3, .int x178), (4, .int x179), (6, .int x180), (7, .int x181), (8, .int x182)]) (by decide) (fun _ => rfl) h (fun v189 h => ?_)
          refine j_goto C dX10_plays_203 (tgt := 114) (by decide) ?_
          refine j_sub (lv' := [(0, .ref h_t), (1, .int p1), (2, .int x177), (3, .int x178), (4, .int x179), (5, .int s184), (6, .int x180), (7, .int x181), (8, .int x182), (9, .int v189)]) [2, 3, 4, 5, 6, 1, 7, 8, 9, 0] rfl ?_
          exact i114 x177 x178 x179 s184 x180 x181 x182 v189 m_t_frees_185 m_t_slot__186 m_t_free__187 m_t_worth__188 h
        have L193 : ∀ (x166 : Int32) (x167 : Int32) (x168 : Int32) (x169 : Int32) (x170 : Int32) (x171 : Int32) (x172 : Int32) (m_t_frees_173 : Int32) (m_t_slot__174 : Nat → Int32) (m_t_free__175 : Nat → Int32) (m_t_worth__176 : Nat → Int32), fX10_plays_193 F t_stones t_told_ t_touches_ t_has_ t_beside_ p1 k22 k59 k114 x166 x167 x168 x169 x170 x171 x172 m_t_frees_173 m_t_slot__174 m_t_free__175 m_t_worth__176 = some r → JJ D X 11 0 0 193 [(0, .ref h_t), (1, .int p1), (2, .int x166), (3, .int x167), (4, .int x168), (6, .int x169), (7, .int x170), (8, .int x171), (9, .int x172)] [] [(h_t, .inr (8, [.int t_length, .ref h_t_text, .int t_at, .ref h_t_told, .ref h_t_touches, .ref h_t_has, .ref h_t_old, .ref h_t_beside, .int t_stones, .ref h_t_slot, .int t_kept, .int t_done, .int t_rows, .ref h_t_row, .ref h_t_free, .int m_t_frees_173, .ref h_t_worth, .ref h_t_fore, .ref h_t_back, .int t_fewest, .ref h_t_got])), (h_t_told, jI D 8 t_told_), (h_t_touches, jZ D 32 t_touches_), (h_t_has, jI D 4 t_has_), (h_t_beside, jI D 9 t_beside_), (h_t_slot, jI D 240 m_t_slot__174), (h_t_free, jI D 9 m_t_free__175), (h_t_worth, jB D 262144 m_t_worth__176)] := by
          intro x166 x167 x168 x169 x170 x171 x172 m_t_frees_173 m_t_slot__174 m_t_free__175 m_t_worth__176 h
          unfold fX10_plays_193 at h
          refine j_iconst C dX10_plays_193 (v := (1 : Int32)) (by decide) ?_
          refine j_goto C dX10_plays_194 (tgt := 198) (by decide) ?_
          refine j_sub (lv' := [(0, .ref h_t), (1, .int p1), (2, .int x166), (3, .int x167), (4, .int x168), (6, .int x169), (7, .int x170), (8, .int x171), (9, .int x172)]) [0, 1, 2, 3, 4, 5, 6, 7, 8] rfl ?_
          exact L198 x166 x167 x168 x169 x170 x171 x172 ((1 : Int32)) m_t_frees_173 m_t_slot__174 m_t_free__175 m_t_worth__176 h
        have L197 : ∀ (x151 : Int32) (x152 : Int32) (x153 : Int32) (x154 : Int32) (x155 : Int32) (x156 : Int32) (x157 : Int32) (m_t_frees_158 : Int32) (m_t_slot__159 : Nat → Int32) (m_t_free__160 : Nat → Int32) (m_t_worth__161 : Nat → Int32), fX10_plays_197 F t_stones t_told_ t_touches_ t_has_ t_beside_ p1 k22 k59 k114 x151 x152 x153 x154 x155 x156 x157 m_t_frees_158 m_t_slot__159 m_t_free__160 m_t_worth__161 = some r → JJ D X 11 0 0 197 [(0, .ref h_t), (1, .int p1), (2, .int x151), (3, .int x152), (4, .int x153), (6, .int x154), (7, .int x155), (8, .int x156), (9, .int x157)] [] [(h_t, .inr (8, [.int t_length, .ref h_t_text, .int t_at, .ref h_t_told, .ref h_t_touches, .ref h_t_has, .ref h_t_old, .ref h_t_beside, .int t_stones, .ref h_t_slot, .int t_kept, .int t_done, .int t_rows, .ref h_t_row, .ref h_t_free, .int m_t_frees_158, .ref h_t_worth, .ref h_t_fore, .ref h_t_back, .int t_fewest, .ref h_t_got])), (h_t_told, jI D 8 t_told_), (h_t_touches, jZ D 32 t_touches_), (h_t_has, jI D 4 t_has_), (h_t_beside, jI D 9 t_beside_), (h_t_slot, jI D 240 m_t_slot__159), (h_t_free, jI D 9 m_t_free__160), (h_t_worth, jB D 262144 m_t_worth__161)] := by
          intro x151 x152 x153 x154 x155 x156 x157 m_t_frees_158 m_t_slot__159 m_t_free__160 m_t_worth__161 h
          unfold fX10_plays_197 at h
          refine j_iconst C dX10_plays_197 (v := (0 : Int32)) (by decide) ?_
          refine j_sub (lv' := [(0, .ref h_t), (1, .int p1), (2, .int x151), (3, .int x152), (4, .int x153), (6, .int x154), (7, .int x155), (8, .int x156), (9, .int x157)]) [0, 1, 2, 3, 4, 5, 6, 7, 8] rfl ?_
          exact L198 x151 x152 x153 x154 x155 x156 x157 ((0 : Int32)) m_t_frees_158 m_t_slot__159 m_t_free__160 m_t_worth__161 h
        have L162 : ∀ (x136 : Int32) (x137 : Int32) (x138 : Int32) (x139 : Int32) (x140 : Int32) (x141 : Int32) (x142 : Int32) (x143 : Int32) (s144 : Int32) (m_t_frees_145 : Int32) (m_t_slot__146 : Nat → Int32) (m_t_free__147 : Nat → Int32) (m_t_worth__148 : Nat → Int32), fX10_plays_162 F t_stones t_told_ t_touches_ t_has_ t_beside_ p1 k22 k59 k114 x136 x137 x138 x139 x140 x141 x142 x143 s144 m_t_frees_145 m_t_slot__146 m_t_free__147 m_t_worth__148 = some r → JJ D X 11 0 0 162 [(0, .ref h_t), (1, .int p1), (2, .int x136), (3, .int x137), (5, .int x138), (6, .int x139), (7, .int x140), (8, .int x141), (9, .int x142), (10, .int x143)] [.int s144] [(h_t, .inr (8, [.int t_length, .ref h_t_text, .int t_at, .ref h_t_told, .ref h_t_touches, .ref h_t_has, .ref h_t_old, .ref h_t_beside, .int t_stones, .ref h_t_slot, .int t_kept, .int t_done, .int t_rows, .ref h_t_row, .ref h_t_free, .int m_t_frees_145, .ref h_t_worth, .ref h_t_fore, .ref h_t_back, .int t_fewest, .ref h_t_got])), (h_t_told, jI D 8 t_told_), (h_t_touches, jZ D 32 t_touches_), (h_t_has, jI D 4 t_has_), (h_t_beside, jI D 9 t_beside_), (h_t_slot, jI D 240 m_t_slot__146), (h_t_free, jI D 9 m_t_free__147), (h_t_worth, jB D 262144 m_t_worth__148)] := by
          intro x136 x137 x138 x139 x140 x141 x142 x143 s144 m_t_frees_145 m_t_slot__146 m_t_free__147 m_t_worth__148 h
          unfold fX10_plays_162 at h
          refine j_istoreC C dX10_plays_162 (lv' := [(4, .int s144), (0, .ref h_t), (1, .int p1), (2, .int x136), (3, .int x137), (5, .int x138), (6, .int x139), (7, .int x140), (8, .int x141), (9, .int x142), (10, .int x143)]) (by decide) rfl ?_
          refine j_iload C dX10_plays_164 5 rfl ?_
          refine j_if_ne C (tgt := 193) dX10_plays_166 (by decide) h (fun c149 h => ?_) (fun c149 h => ?_)
          · refine j_iload C dX10_plays_169 10 rfl ?_
            refine j_if_eq C (tgt := 197) dX10_plays_171 (by decide) h (fun c150 h => ?_) (fun c150 h => ?_)
            · refine j_sub (lv' := [(0, .ref h_t), (1, .int p1), (2, .int x136), (3, .int x137), (4, .int s144), (6, .int x139), (7, .int x140), (8, .int x141), (9, .int x142)]) [1, 2, 3, 4, 0, 6, 7, 8, 9] rfl ?_
              exact L197 x136 x137 s144 x139 x140 x141 x142 m_t_frees_145 m_t_slot__146 m_t_free__147 m_t_worth__148 h
            · refine j_aload_n C dX10_plays_174 rfl 1 rfl ?_
              refine j_get C ibX10 (ci := 8) 0 rfl rfl 16 (by decide) bfX10_40 (v := .ref h_t_worth) rfl dX10_plays_175 ?_
              refine j_iload_n C dX10_plays_178 rfl 3 rfl ?_
              refine j_iload C dX10_plays_179 9 rfl ?_
              refine j_aload_n C dX10_plays_181 rfl 1 rfl ?_
              refine j_iload C dX10_plays_182 7 rfl ?_
              obtain ⟨r162, q163, h⟩ := jl_bind h
              refine j_cV1 C (mX10_step (jlaunch X) D h_t h_t_text h_t_told h_t_touches h_t_has h_t_old h_t_beside h_t_slot h_t_row h_t_free h_t_worth h_t_fore h_t_back h_t_got t_length t_at t_stones t_kept t_done t_rows m_t_frees_145 t_fewest x140 r162 q163) bmX10_177 biX10_step bsX10_step bzX10 bcX10_step rfl hX10_step (rest := [.int x142, .int x136, .ref h_t_worth]) rfl (jroom_of rfl) 0 (ci := 8) rfl rfl rfl [0] [1, 2, 3, 4, 5, 6, 7] [7, 0, 1, 2, 3, 4, 5, 6] (wr := [(h_t_told, jI D 8 t_told_), (h_t_touches, jZ D 32 t_touches_), (h_t_has, jI D 4 t_has_), (h_t_beside, jI D 9 t_beside_), (h_t_slot, jI D 240 m_t_slot__146), (h_t_free, jI D 9 m_t_free__147), (h_t_worth, jB D 262144 m_t_worth__148)]) (ws2 := [(h_t, .inr (8, [.int t_length, .ref h_t_text, .int t_at, .ref h_t_told, .ref h_t_touches, .ref h_t_has, .ref h_t_old, .ref h_t_beside, .int t_stones, .ref h_t_slot, .int t_kept, .int t_done, .int t_rows, .ref h_t_row, .ref h_t_free, .int m_t_frees_145, .ref h_t_worth, .ref h_t_fore, .ref h_t_back, .int t_fewest, .ref h_t_got])), (h_t_told, jI D 8 t_told_), (h_t_touches, jZ D 32 t_touches_), (h_t_has, jI D 4 t_has_), (h_t_beside, jI D 9 t_beside_), (h_t_slot, jI D 240 m_t_slot__146), (h_t_free, jI D 9 m_t_free__147), (h_t_worth, jB D 262144 m_t_worth__148)]) rfl rfl rfl rfl rfl (Nat.le_of_ble_eq_true rfl) dX10_plays_184 ?_
              refine j_imul C dX10_plays_187 ?_
              refine j_iadd C dX10_plays_188 ?_
              refine jl_inb h (fun b164 h => ?_)
              refine j_bald C 7 rfl b164 dX10_plays_189 ?_
              refine j_if_ne C (tgt := 197) dX10_plays_190 (by decide) h (fun c165 h => ?_) (fun c165 h => ?_)
              · refine j_sub (lv' := [(0, .ref h_t), (1, .int p1), (2, .int x136), (3, .int x137), (4, .int s144), (6, .int x139), (7, .int x140), (8, .int x141), (9, .int x142)]) [1, 2, 3, 4, 0, 6, 7, 8, 9] rfl ?_
                exact L193 x136 x137 s144 x139 x140 x141 x142 m_t_frees_145 m_t_slot__146 m_t_free__147 m_t_worth__148 h
              · refine j_sub (lv' := [(0, .ref h_t), (1, .int p1), (2, .int x136), (3, .int x137), (4, .int s144), (6, .int x139), (7, .int x140), (8, .int x141), (9, .int x142)]) [1, 2, 3, 4, 0, 6, 7, 8, 9] rfl ?_
                exact L197 x136 x137 s144 x139 x140 x141 x142 m_t_frees_145 m_t_slot__146 m_t_free__147 m_t_worth__148 h
          · refine j_sub (lv' := [(0, .ref h_t), (1, .int p1), (2, .int x136), (3, .int x137), (4, .int s144), (6, .int x139), (7, .int x140), (8, .int x141), (9, .int x142)]) [1, 2, 3, 4, 0, 6, 7, 8, 9] rfl ?_
            exact L193 x136 x137 s144 x139 x140 x141 x142 m_t_frees_145 m_t_slot__146 m_t_free__147 m_t_worth__148 h
        have L161 : ∀ (x123 : Int32) (x124 : Int32) (x125 : Int32) (x126 : Int32) (x127 : Int32) (x128 : Int32) (x129 : Int32) (x130 : Int32) (m_t_frees_131 : Int32) (m_t_slot__132 : Nat → Int32) (m_t_free__133 : Nat → Int32) (m_t_worth__134 : Nat → Int32), fX10_plays_161 F t_stones t_told_ t_touches_ t_has_ t_beside_ p1 k22 k59 k114 x123 x124 x125 x126 x127 x128 x129 x130 m_t_frees_131 m_t_slot__132 m_t_free__133 m_t_worth__134 = some r → JJ D X 11 0 0 161 [(0, .ref h_t), (1, .int p1), (2, .int x123), (3, .int x124), (5, .int x125), (6, .int x126), (7, .int x127), (8, .int x128), (9, .int x129), (10, .int x130)] [] [(h_t, .inr (8, [.int t_length, .ref h_t_text, .int t_at, .ref h_t_told, .ref h_t_touches, .ref h_t_has, .ref h_t_old, .ref h_t_beside, .int t_stones, .ref h_t_slot, .int t_kept, .int t_done, .int t_rows, .ref h_t_row, .ref h_t_free, .int m_t_frees_131, .ref h_t_worth, .ref h_t_fore, .ref h_t_back, .int t_fewest, .ref h_t_got])), (h_t_told, jI D 8 t_told_), (h_t_touches, jZ D 32 t_touches_), (h_t_has, jI D 4 t_has_), (h_t_beside, jI D 9 t_beside_), (h_t_slot, jI D 240 m_t_slot__132), (h_t_free, jI D 9 m_t_free__133), (h_t_worth, jB D 262144 m_t_worth__134)] := by
          intro x123 x124 x125 x126 x127 x128 x129 x130 m_t_frees_131 m_t_slot__132 m_t_free__133 m_t_worth__134 h
          unfold fX10_plays_161 at h
          refine j_iconst C dX10_plays_161 (v := (0 : Int32)) (by decide) ?_
          refine j_sub (lv' := [(0, .ref h_t), (1, .int p1), (2, .int x123), (3, .int x124), (5, .int x125), (6, .int x126), (7, .int x127), (8, .int x128), (9, .int x129), (10, .int x130)]) [0, 1, 2, 3, 4, 5, 6, 7, 8, 9] rfl ?_
          exact L162 x123 x124 x125 x126 x127 x128 x129 x130 ((0 : Int32)) m_t_frees_131 m_t_slot__132 m_t_free__133 m_t_worth__134 h
        refine j_iload C dX10_plays_114 9 rfl ?_
        refine j_aload_n C dX10_plays_116 rfl 0 rfl ?_
        refine j_get C ibX10 (ci := 8) 0 rfl rfl 3 (by decide) bfX10_13 (v := .ref h_t_told) rfl dX10_plays_117 ?_
        refine j_iconst C dX10_plays_120 (v := (2 : Int32)) (by decide) ?_
        refine j_iald C 1 rfl (by unfold vp_in; decide) dX10_plays_121 ?_
        refine j_icmp_gt C (tgt := 206) dX10_plays_122 (by decide) h (fun c115 h => ?_) (fun c115 h => ?_)
        · refine j_iinc C dX10_plays_206 7 rfl (lv' := fun v116 => [(7, .int v116), (0, .ref h_t), (1, .int p1), (2, .int x100), (3, .int x101), (4, .int x102), (5, .int x103), (6, .int x104), (8, .int x106), (9, .int x107)]) (by decide) (fun _ => rfl) h (fun v116 h => ?_)
          refine j_goto C dX10_plays_209 (tgt := 59) (by decide) ?_
          refine j_sub (lv' := [(0, .ref h_t), (1, .int p1), (2, .int x100), (3, .int x101), (4, .int x102), (5, .int x103), (6, .int x104), (7, .int v116)]) [1, 2, 3, 4, 5, 6, 7, 0] rfl ?_
          exact i59 x100 x101 x102 x103 x104 v116 m_t_frees_108 m_t_slot__109 m_t_free__110 m_t_worth__111 h
        · refine j_iload C dX10_plays_125 8 rfl ?_
          refine j_if_eq C (tgt := 206) dX10_plays_127 (by decide) h (fun c117 h => ?_) (fun c117 h => ?_)
          · refine j_iinc C dX10_plays_206 7 rfl (lv' := fun v118 => [(7, .int v118), (0, .ref h_t), (1, .int p1), (2, .int x100), (3, .int x101), (4, .int x102), (5, .int x103), (6, .int x104), (8, .int x106), (9, .int x107)]) (by decide) (fun _ => rfl) h (fun v118 h => ?_)
            refine j_goto C dX10_plays_209 (tgt := 59) (by decide) ?_
            refine j_sub (lv' := [(0, .ref h_t), (1, .int p1), (2, .int x100), (3, .int x101), (4, .int x102), (5, .int x103), (6, .int x104), (7, .int v118)]) [1, 2, 3, 4, 5, 6, 7, 0] rfl ?_
            exact i59 x100 x101 x102 x103 x104 v118 m_t_frees_108 m_t_slot__109 m_t_free__110 m_t_worth__111 h
          · refine j_aload_n C dX10_plays_130 rfl 0 rfl ?_
            refine j_bipush C dX10_plays_131 (v := (11 : Int32)) (by decide) ?_
            refine j_aload_n C dX10_plays_133 rfl 0 rfl ?_
            refine j_get C ibX10 (ci := 8) 0 rfl rfl 14 (by decide) bfX10_36 (v := .ref h_t_free) rfl dX10_plays_134 ?_
            refine j_iload C dX10_plays_137 7 rfl ?_
            refine jl_inb h (fun b119 h => ?_)
            refine j_iald C 6 rfl b119 dX10_plays_139 ?_
            refine j_iload C dX10_plays_140 9 rfl ?_
            obtain ⟨r120, q121, h⟩ := jl_bind h
            refine j_cV1 C (mX10_isMay (jlaunch X) D F h_t h_t_text h_t_told h_t_touches h_t_has h_t_old h_t_beside h_t_slot h_t_row h_t_free h_t_worth h_t_fore h_t_back h_t_got t_length t_at t_stones t_kept t_done t_rows m_t_frees_108 t_fewest t_touches_ t_has_ t_beside_ m_t_slot__109 ((11 : Int32)) (m_t_free__110 x105.toNatClampNeg) x107 r120 q121) bmX10_127 biX10_isMay bsX10_isMay bzX10 bcX10_isMay rfl hX10_isMay (rest := []) rfl (jroom_of rfl) 0 (ci := 8) rfl rfl rfl [0, 2, 3, 4, 5] [1, 6, 7] [3, 0, 4, 5, 6, 7, 1, 2] (wr := [(h_t_told, jI D 8 t_told_), (h_t_free, jI D 9 m_t_free__110), (h_t_worth, jB D 262144 m_t_worth__111)]) (ws2 := [(h_t, .inr (8, [.int t_length, .ref h_t_text, .int t_at, .ref h_t_told, .ref h_t_touches, .ref h_t_has, .ref h_t_old, .ref h_t_beside, .int t_stones, .ref h_t_slot, .int t_kept, .int t_done, .int t_rows, .ref h_t_row, .ref h_t_free, .int m_t_frees_108, .ref h_t_worth, .ref h_t_fore, .ref h_t_back, .int t_fewest, .ref h_t_got])), (h_t_told, jI D 8 t_told_), (h_t_touches, jZ D 32 t_touches_), (h_t_has, jI D 4 t_has_), (h_t_beside, jI D 9 t_beside_), (h_t_slot, jI D 240 m_t_slot__109), (h_t_free, jI D 9 m_t_free__110), (h_t_worth, jB D 262144 m_t_worth__111)]) rfl rfl rfl rfl rfl (Nat.le_of_ble_eq_true rfl) dX10_plays_142 ?_
            refine j_istoreC C dX10_plays_145 (lv' := [(10, .int r120), (0, .ref h_t), (1, .int p1), (2, .int x100), (3, .int x101), (4, .int x102), (5, .int x103), (6, .int x104), (7, .int x105), (8, .int x106), (9, .int x107)]) (by decide) rfl ?_
            refine j_iload C dX10_plays_147 5 rfl ?_
            refine j_if_eq C (tgt := 161) dX10_plays_149 (by decide) h (fun c122 h => ?_) (fun c122 h => ?_)
            · refine j_sub (lv' := [(0, .ref h_t), (1, .int p1), (2, .int x100), (3, .int x101), (5, .int x103), (6, .int x104), (7, .int x105), (8, .int x106), (9, .int x107), (10, .int r120)]) [1, 2, 3, 4, 6, 7, 8, 9, 10, 0] rfl ?_
              exact L161 x100 x101 x103 x104 x105 x106 x107 r120 m_t_frees_108 m_t_slot__109 m_t_free__110 m_t_worth__111 h
            · refine j_iload C dX10_plays_152 0 rfl ?_
              refine j_if_ne C (tgt := 161) dX10_plays_154 (by decide) h (fun c135 h => ?_) (fun c135 h => ?_)
              · refine j_iconst C dX10_plays_157 (v := (1 : Int32)) (by decide) ?_
                refine j_goto C dX10_plays_158 (tgt := 162) (by decide) ?_
                refine j_sub (lv' := [(0, .ref h_t), (1, .int p1), (2, .int x100), (3, .int x101), (5, .int x103), (6, .int x104), (7, .int x105), (8, .int x106), (9, .int x107), (10, .int r120)]) [1, 2, 3, 4, 6, 7, 8, 9, 10, 0] rfl ?_
                exact L162 x100 x101 x103 x104 x105 x106 x107 r120 ((1 : Int32)) m_t_frees_108 m_t_slot__109 m_t_free__110 m_t_worth__111 h
              · refine j_sub (lv' := [(0, .ref h_t), (1, .int p1), (2, .int x100), (3, .int x101), (5, .int x103), (6, .int x104), (7, .int x105), (8, .int x106), (9, .int x107), (10, .int r120)]) [1, 2, 3, 4, 6, 7, 8, 9, 10, 0] rfl ?_
                exact L161 x100 x101 x103 x104 x105 x106 x107 r120 m_t_frees_108 m_t_slot__109 m_t_free__110 m_t_worth__111 h
      have L109 : ∀ (x79 : Int32) (x80 : Int32) (x81 : Int32) (x82 : Int32) (x83 : Int32) (x84 : Int32) (s85 : Int32) (m_t_frees_86 : Int32) (m_t_slot__87 : Nat → Int32) (m_t_free__88 : Nat → Int32) (m_t_worth__89 : Nat → Int32), fX10_plays_109 F t_stones t_told_ t_touches_ t_has_ t_beside_ p1 k22 k59 x79 x80 x81 x82 x83 x84 s85 m_t_frees_86 m_t_slot__87 m_t_free__88 m_t_worth__89 = some r → JJ D X 11 0 0 109 [(0, .ref h_t), (1, .int p1), (2, .int x79), (3, .int x80), (4, .int x81), (5, .int x82), (7, .int x83), (8, .int x84)] [.int s85] [(h_t, .inr (8, [.int t_length, .ref h_t_text, .int t_at, .ref h_t_told, .ref h_t_touches, .ref h_t_has, .ref h_t_old, .ref h_t_beside, .int t_stones, .ref h_t_slot, .int t_kept, .int t_done, .int t_rows, .ref h_t_row, .ref h_t_free, .int m_t_frees_86, .ref h_t_worth, .ref h_t_fore, .ref h_t_back, .int t_fewest, .ref h_t_got])), (h_t_told, jI D 8 t_told_), (h_t_touches, jZ D 32 t_touches_), (h_t_has, jI D 4 t_has_), (h_t_beside, jI D 9 t_beside_), (h_t_slot, jI D 240 m_t_slot__87), (h_t_free, jI D 9 m_t_free__88), (h_t_worth, jB D 262144 m_t_worth__89)] := by
        intro x79 x80 x81 x82 x83 x84 s85 m_t_frees_86 m_t_slot__87 m_t_free__88 m_t_worth__89 h
        unfold fX10_plays_109 at h
        refine j_istoreC C dX10_plays_109 (lv' := [(6, .int s85), (0, .ref h_t), (1, .int p1), (2, .int x79), (3, .int x80), (4, .int x81), (5, .int x82), (7, .int x83), (8, .int x84)]) (by decide) rfl ?_
        refine j_iconst C dX10_plays_111 (v := (1 : Int32)) (by decide) ?_
        refine j_istoreC C dX10_plays_112 (lv' := [(9, .int ((1 : Int32))), (6, .int s85), (0, .ref h_t), (1, .int p1), (2, .int x79), (3, .int x80), (4, .int x81), (5, .int x82), (7, .int x83), (8, .int x84)]) (by decide) rfl ?_
        refine j_sub (lv' := [(0, .ref h_t), (1, .int p1), (2, .int x79), (3, .int x80), (4, .int x81), (5, .int x82), (6, .int s85), (7, .int x83), (8, .int x84), (9, .int ((1 : Int32)))]) [2, 3, 4, 5, 6, 7, 1, 8, 9, 0] rfl ?_
        exact L114 x79 x80 x81 x82 s85 x83 x84 ((1 : Int32)) m_t_frees_86 m_t_slot__87 m_t_free__88 m_t_worth__89 h
      have L108 : ∀ (x68 : Int32) (x69 : Int32) (x70 : Int32) (x71 : Int32) (x72 : Int32) (x73 : Int32) (m_t_frees_74 : Int32) (m_t_slot__75 : Nat → Int32) (m_t_free__76 : Nat → Int32) (m_t_worth__77 : Nat → Int32), fX10_plays_108 F t_stones t_told_ t_touches_ t_has_ t_beside_ p1 k22 k59 x68 x69 x70 x71 x72 x73 m_t_frees_74 m_t_slot__75 m_t_free__76 m_t_worth__77 = some r → JJ D X 11 0 0 108 [(0, .ref h_t), (1, .int p1), (2, .int x68), (3, .int x69), (4, .int x70), (5, .int x71), (7, .int x72), (8, .int x73)] [] [(h_t, .inr (8, [.int t_length, .ref h_t_text, .int t_at, .ref h_t_told, .ref h_t_touches, .ref h_t_has, .ref h_t_old, .ref h_t_beside, .int t_stones, .ref h_t_slot, .int t_kept, .int t_done, .int t_rows, .ref h_t_row, .ref h_t_free, .int m_t_frees_74, .ref h_t_worth, .ref h_t_fore, .ref h_t_back, .int t_fewest, .ref h_t_got])), (h_t_told, jI D 8 t_told_), (h_t_touches, jZ D 32 t_touches_), (h_t_has, jI D 4 t_has_), (h_t_beside, jI D 9 t_beside_), (h_t_slot, jI D 240 m_t_slot__75), (h_t_free, jI D 9 m_t_free__76), (h_t_worth, jB D 262144 m_t_worth__77)] := by
        intro x68 x69 x70 x71 x72 x73 m_t_frees_74 m_t_slot__75 m_t_free__76 m_t_worth__77 h
        unfold fX10_plays_108 at h
        refine j_iconst C dX10_plays_108 (v := (0 : Int32)) (by decide) ?_
        refine j_sub (lv' := [(0, .ref h_t), (1, .int p1), (2, .int x68), (3, .int x69), (4, .int x70), (5, .int x71), (7, .int x72), (8, .int x73)]) [0, 1, 2, 3, 4, 5, 6, 7] rfl ?_
        exact L109 x68 x69 x70 x71 x72 x73 ((0 : Int32)) m_t_frees_74 m_t_slot__75 m_t_free__76 m_t_worth__77 h
      have L92 : ∀ (x47 : Int32) (x48 : Int32) (x49 : Int32) (x50 : Int32) (x51 : Int32) (x52 : Int32) (s53 : Int32) (m_t_frees_54 : Int32) (m_t_slot__55 : Nat → Int32) (m_t_free__56 : Nat → Int32) (m_t_worth__57 : Nat → Int32), fX10_plays_92 F t_stones t_told_ t_touches_ t_has_ t_beside_ p1 k22 k59 x47 x48 x49 x50 x51 x52 s53 m_t_frees_54 m_t_slot__55 m_t_free__56 m_t_worth__57 = some r → JJ D X 11 0 0 92 [(0, .ref h_t), (1, .int p1), (2, .int x47), (3, .int x48), (4, .int x49), (5, .int x50), (6, .int x51), (7, .int x52)] [.int s53] [(h_t, .inr (8, [.int t_length, .ref h_t_text, .int t_at, .ref h_t_told, .ref h_t_touches, .ref h_t_has, .ref h_t_old, .ref h_t_beside, .int t_stones, .ref h_t_slot, .int t_kept, .int t_done, .int t_rows, .ref h_t_row, .ref h_t_free, .int m_t_frees_54, .ref h_t_worth, .ref h_t_fore, .ref h_t_back, .int t_fewest, .ref h_t_got])), (h_t_told, jI D 8 t_told_), (h_t_touches, jZ D 32 t_touches_), (h_t_has, jI D 4 t_has_), (h_t_beside, jI D 9 t_beside_), (h_t_slot, jI D 240 m_t_slot__55), (h_t_free, jI D 9 m_t_free__56), (h_t_worth, jB D 262144 m_t_worth__57)] := by
        intro x47 x48 x49 x50 x51 x52 s53 m_t_frees_54 m_t_slot__55 m_t_free__56 m_t_worth__57 h
        unfold fX10_plays_92 at h
        refine j_istoreC C dX10_plays_92 (lv' := [(8, .int s53), (0, .ref h_t), (1, .int p1), (2, .int x47), (3, .int x48), (4, .int x49), (5, .int x50), (6, .int x51), (7, .int x52)]) (by decide) rfl ?_
        refine j_iload C dX10_plays_94 7 rfl ?_
        refine j_if_eq C (tgt := 108) dX10_plays_96 (by decide) h (fun c67 h => ?_) (fun c67 h => ?_)
        · refine j_sub (lv' := [(0, .ref h_t), (1, .int p1), (2, .int x47), (3, .int x48), (4, .int x49), (5, .int x50), (7, .int x52), (8, .int s53)]) [1, 2, 3, 4, 5, 6, 8, 0] rfl ?_
          exact L108 x47 x48 x49 x50 x52 s53 m_t_frees_54 m_t_slot__55 m_t_free__56 m_t_worth__57 h
        · refine j_iload C dX10_plays_99 0 rfl ?_
          refine j_if_ne C (tgt := 108) dX10_plays_101 (by decide) h (fun c78 h => ?_) (fun c78 h => ?_)
          · refine j_iconst C dX10_plays_104 (v := (1 : Int32)) (by decide) ?_
            refine j_goto C dX10_plays_105 (tgt := 109) (by decide) ?_
            refine j_sub (lv' := [(0, .ref h_t), (1, .int p1), (2, .int x47), (3, .int x48), (4, .int x49), (5, .int x50), (7, .int x52), (8, .int s53)]) [1, 2, 3, 4, 5, 6, 8, 0] rfl ?_
            exact L109 x47 x48 x49 x50 x52 s53 ((1 : Int32)) m_t_frees_54 m_t_slot__55 m_t_free__56 m_t_worth__57 h
          · refine j_sub (lv' := [(0, .ref h_t), (1, .int p1), (2, .int x47), (3, .int x48), (4, .int x49), (5, .int x50), (7, .int x52), (8, .int s53)]) [1, 2, 3, 4, 5, 6, 8, 0] rfl ?_
            exact L108 x47 x48 x49 x50 x52 s53 m_t_frees_54 m_t_slot__55 m_t_free__56 m_t_worth__57 h
      refine j_iload C dX10_plays_59 7 rfl ?_
      refine j_aload_n C dX10_plays_61 rfl 0 rfl ?_
      refine j_get C ibX10 (ci := 8) 0 rfl rfl 15 (by decide) bfX10_147 (v := .int m_t_frees_21) rfl dX10_plays_62 ?_
      refine j_icmp_ge C (tgt := 212) dX10_plays_65 (by decide) h (fun c25 h => ?_) (fun c25 h => ?_)
      · refine j_iload_n C dX10_plays_212 rfl 1 rfl ?_
        refine j_if_lt C (tgt := 235) dX10_plays_213 (by decide) h (fun c26 h => ?_) (fun c26 h => ?_)
        · refine j_sub (lv' := [(0, .ref h_t), (1, .int p1), (2, .int x15), (4, .int x17), (5, .int x18)]) [0, 1, 2, 4, 5] rfl ?_
          exact L235 x15 x17 x18 m_t_frees_21 m_t_slot__22 m_t_free__23 m_t_worth__24 h
        · refine j_iload C dX10_plays_216 6 rfl ?_
          refine j_iload_n C dX10_plays_218 rfl 3 rfl ?_
          refine j_iload_n C dX10_plays_219 rfl 1 rfl ?_
          refine j_icmp_ne C (tgt := 227) dX10_plays_220 (by decide) h (fun c34 h => ?_) (fun c34 h => ?_)
          · refine j_iconst C dX10_plays_223 (v := (1 : Int32)) (by decide) ?_
            refine j_goto C dX10_plays_224 (tgt := 228) (by decide) ?_
            refine j_sub (lv' := [(0, .ref h_t), (1, .int p1), (2, .int x15), (4, .int x17), (5, .int x18)]) [0, 1, 2, 4, 5] rfl ?_
            exact L228 x15 x17 x18 ((1 : Int32)) x19 m_t_frees_21 m_t_slot__22 m_t_free__23 m_t_worth__24 h
          · refine j_iconst C dX10_plays_227 (v := (0 : Int32)) (by decide) ?_
            refine j_sub (lv' := [(0, .ref h_t), (1, .int p1), (2, .int x15), (4, .int x17), (5, .int x18)]) [0, 1, 2, 4, 5] rfl ?_
            exact L228 x15 x17 x18 ((0 : Int32)) x19 m_t_frees_21 m_t_slot__22 m_t_free__23 m_t_worth__24 h
      · refine j_aload_n C dX10_plays_68 rfl 0 rfl ?_
        refine j_get C ibX10 (ci := 8) 0 rfl rfl 9 (by decide) bfX10_30 (v := .ref h_t_slot) rfl dX10_plays_69 ?_
        refine j_sipush C dX10_plays_72 (v := (220 : Int32)) (by decide) ?_
        refine j_aload_n C dX10_plays_75 rfl 0 rfl ?_
        refine j_get C ibX10 (ci := 8) 0 rfl rfl 14 (by decide) bfX10_36 (v := .ref h_t_free) rfl dX10_plays_76 ?_
        refine j_iload C dX10_plays_79 7 rfl ?_
        refine jl_inb h (fun b44 h => ?_)
        refine j_iald C 6 rfl b44 dX10_plays_81 ?_
        refine j_iadd C dX10_plays_82 ?_
        refine jl_inb h (fun b45 h => ?_)
        refine j_iald C 5 rfl b45 dX10_plays_83 ?_
        refine j_if_ne C (tgt := 91) dX10_plays_84 (by decide) h (fun c46 h => ?_) (fun c46 h => ?_)
        · refine j_iconst C dX10_plays_87 (v := (1 : Int32)) (by decide) ?_
          refine j_goto C dX10_plays_88 (tgt := 92) (by decide) ?_
          refine j_sub (lv' := [(0, .ref h_t), (1, .int p1), (2, .int x15), (3, .int x16), (4, .int x17), (5, .int x18), (6, .int x19), (7, .int x20)]) [0, 1, 2, 3, 4, 5, 6, 7] rfl ?_
          exact L92 x15 x16 x17 x18 x19 x20 ((1 : Int32)) m_t_frees_21 m_t_slot__22 m_t_free__23 m_t_worth__24 h
        · refine j_iconst C dX10_plays_91 (v := (0 : Int32)) (by decide) ?_
          refine j_sub (lv' := [(0, .ref h_t), (1, .int p1), (2, .int x15), (3, .int x16), (4, .int x17), (5, .int x18), (6, .int x19), (7, .int x20)]) [0, 1, 2, 3, 4, 5, 6, 7] rfl ?_
          exact L92 x15 x16 x17 x18 x19 x20 ((0 : Int32)) m_t_frees_21 m_t_slot__22 m_t_free__23 m_t_worth__24 h
    refine j_iload_n C dX10_plays_22 rfl 2 rfl ?_
    refine j_if_lt C (tgt := 279) dX10_plays_23 (by decide) h (fun c11 h => ?_) (fun c11 h => ?_)
    · exact j_vretR C (r := r) (rtf := fun r => none) (wff := fun r => (oX10_plays D h_t h_t_text h_t_told h_t_touches h_t_has h_t_old h_t_beside h_t_slot h_t_row h_t_free h_t_worth h_t_fore h_t_back h_t_got t_length t_at t_stones t_kept t_done t_rows t_fewest t_told_ t_touches_ t_has_ t_beside_ r)) E h rfl rfl dX10_plays_279
    · refine j_aload_n C dX10_plays_26 rfl 0 rfl ?_
      refine j_iload_n C dX10_plays_27 rfl 2 rfl ?_
      refine j_aload_n C dX10_plays_28 rfl 0 rfl ?_
      refine j_get C ibX10 (ci := 8) 0 rfl rfl 9 (by decide) bfX10_30 (v := .ref h_t_slot) rfl dX10_plays_29 ?_
      refine j_bipush C dX10_plays_32 (v := (19 : Int32)) (by decide) ?_
      refine j_iald C 5 rfl (by unfold vp_in; decide) dX10_plays_34 ?_
      obtain ⟨r12, q13, h⟩ := jl_bind h
      refine j_cV0 C (mX10_fills (jlaunch X) D F h_t h_t_text h_t_told h_t_touches h_t_has h_t_old h_t_beside h_t_slot h_t_row h_t_free h_t_worth h_t_fore h_t_back h_t_got t_length t_at t_stones t_kept t_done t_rows m_t_frees_7 t_fewest m_t_slot__8 m_t_free__9 x6 (m_t_slot__8 ((19 : Int32)).toNatClampNeg) r12 q13) bmX10_174 biX10_fills bsX10_fills bzX10 bcX10_fills rfl hX10_fills (rest := []) rfl (jroom_of rfl) 0 (ci := 8) rfl rfl rfl [0, 5, 6] [1, 2, 3, 4, 7] [5, 0, 1, 2, 3, 6, 7, 4] (wr := [(h_t_told, jI D 8 t_told_), (h_t_touches, jZ D 32 t_touches_), (h_t_has, jI D 4 t_has_), (h_t_beside, jI D 9 t_beside_), (h_t_worth, jB D 262144 m_t_worth__10)]) (ws2 := [(h_t, .inr (8, [.int t_length, .ref h_t_text, .int t_at, .ref h_t_told, .ref h_t_touches, .ref h_t_has, .ref h_t_old, .ref h_t_beside, .int t_stones, .ref h_t_slot, .int t_kept, .int t_done, .int t_rows, .ref h_t_row, .ref h_t_free, .int m_t_frees_7, .ref h_t_worth, .ref h_t_fore, .ref h_t_back, .int t_fewest, .ref h_t_got])), (h_t_told, jI D 8 t_told_), (h_t_touches, jZ D 32 t_touches_), (h_t_has, jI D 4 t_has_), (h_t_beside, jI D 9 t_beside_), (h_t_slot, jI D 240 r12), (h_t_free, jI D 9 m_t_free__9), (h_t_worth, jB D 262144 m_t_worth__10)]) rfl rfl rfl rfl rfl (Nat.le_of_ble_eq_true rfl) dX10_plays_35 ?_
      refine j_aload_n C dX10_plays_38 rfl 0 rfl ?_
      refine j_get C ibX10 (ci := 8) 0 rfl rfl 9 (by decide) bfX10_30 (v := .ref h_t_slot) rfl dX10_plays_39 ?_
      refine j_sipush C dX10_plays_42 (v := (239 : Int32)) (by decide) ?_
      refine j_iald C 5 rfl (by unfold vp_in; decide) dX10_plays_45 ?_
      refine j_istore_n C dX10_plays_46 rfl (lv' := fun v14 => [(3, .int v14), (0, .ref h_t), (1, .int p1), (2, .int x6)]) (by decide) (fun _ => rfl) h (fun v14 h => ?_)
      refine j_iconst C dX10_plays_47 (v := (1 : Int32)) (by decide) ?_
      refine j_istoreC C dX10_plays_48 (lv' := [(4, .int ((1 : Int32))), (3, .int v14), (0, .ref h_t), (1, .int p1), (2, .int x6)]) (by decide) rfl ?_
      refine j_iconst C dX10_plays_50 (v := (0 : Int32)) (by decide) ?_
      refine j_istoreC C dX10_plays_51 (lv' := [(5, .int ((0 : Int32))), (4, .int ((1 : Int32))), (3, .int v14), (0, .ref h_t), (1, .int p1), (2, .int x6)]) (by decide) rfl ?_
      refine j_iconst C dX10_plays_53 (v := (1 : Int32)) (by decide) ?_
      refine j_istoreC C dX10_plays_54 (lv' := [(6, .int ((1 : Int32))), (5, .int ((0 : Int32))), (4, .int ((1 : Int32))), (3, .int v14), (0, .ref h_t), (1, .int p1), (2, .int x6)]) (by decide) rfl ?_
      refine j_iconst C dX10_plays_56 (v := (0 : Int32)) (by decide) ?_
      refine j_istoreC C dX10_plays_57 (lv' := [(7, .int ((0 : Int32))), (6, .int ((1 : Int32))), (5, .int ((0 : Int32))), (4, .int ((1 : Int32))), (3, .int v14), (0, .ref h_t), (1, .int p1), (2, .int x6)]) (by decide) rfl ?_
      refine j_sub (lv' := [(0, .ref h_t), (1, .int p1), (2, .int x6), (3, .int v14), (4, .int ((1 : Int32))), (5, .int ((0 : Int32))), (6, .int ((1 : Int32))), (7, .int ((0 : Int32)))]) [5, 6, 7, 4, 3, 2, 1, 0] rfl ?_
      exact L59 x6 v14 ((1 : Int32)) ((0 : Int32)) ((1 : Int32)) ((0 : Int32)) m_t_frees_7 r12 m_t_free__9 m_t_worth__10 h
  refine j_aload_n C dX10_plays_0 rfl 0 rfl ?_
  refine j_iconst C dX10_plays_1 (v := (0 : Int32)) (by decide) ?_
  refine j_bipush C dX10_plays_2 (v := (11 : Int32)) (by decide) ?_
  obtain ⟨r1, q2, h⟩ := jl_bind h
  refine j_cV0 C (mX10_copies (jlaunch X) D F h_t h_t_text h_t_told h_t_touches h_t_has h_t_old h_t_beside h_t_slot h_t_row h_t_free h_t_worth h_t_fore h_t_back h_t_got t_length t_at t_stones t_kept t_done t_rows t_frees t_fewest t_slot_ ((0 : Int32)) ((11 : Int32)) r1 q2) bmX10_130 biX10_copies bsX10_copies bzX10 bcX10_copies rfl hX10_copies (rest := []) rfl (jroom_of rfl) 0 (ci := 8) rfl rfl rfl [0, 5] [1, 2, 3, 4, 6, 7] [6, 0, 1, 2, 3, 7, 4, 5] (wr := [(h_t_told, jI D 8 t_told_), (h_t_touches, jZ D 32 t_touches_), (h_t_has, jI D 4 t_has_), (h_t_beside, jI D 9 t_beside_), (h_t_free, jI D 9 t_free_), (h_t_worth, jB D 262144 t_worth_)]) (ws2 := [(h_t, .inr (8, [.int t_length, .ref h_t_text, .int t_at, .ref h_t_told, .ref h_t_touches, .ref h_t_has, .ref h_t_old, .ref h_t_beside, .int t_stones, .ref h_t_slot, .int t_kept, .int t_done, .int t_rows, .ref h_t_row, .ref h_t_free, .int t_frees, .ref h_t_worth, .ref h_t_fore, .ref h_t_back, .int t_fewest, .ref h_t_got])), (h_t_told, jI D 8 t_told_), (h_t_touches, jZ D 32 t_touches_), (h_t_has, jI D 4 t_has_), (h_t_beside, jI D 9 t_beside_), (h_t_slot, jI D 240 r1), (h_t_free, jI D 9 t_free_), (h_t_worth, jB D 262144 t_worth_)]) rfl rfl rfl rfl rfl (Nat.le_of_ble_eq_true rfl) dX10_plays_4 ?_
  refine j_aload_n C dX10_plays_7 rfl 0 rfl ?_
  obtain ⟨r3, q4, h⟩ := jl_bind h
  refine j_cV0 C (mX10_freed (jlaunch X) D F h_t h_t_text h_t_told h_t_touches h_t_has h_t_old h_t_beside h_t_slot h_t_row h_t_free h_t_worth h_t_fore h_t_back h_t_got t_length t_at t_stones t_kept t_done t_rows t_frees t_fewest r1 t_free_ r3 q4) bmX10_150 biX10_freed bsX10_freed bzX10 bcX10_freed rfl hX10_freed (rest := []) rfl (jroom_of rfl) 0 (ci := 8) rfl rfl rfl [0, 5, 6] [1, 2, 3, 4, 7] [5, 0, 1, 2, 3, 6, 7, 4] (wr := [(h_t_told, jI D 8 t_told_), (h_t_touches, jZ D 32 t_touches_), (h_t_has, jI D 4 t_has_), (h_t_beside, jI D 9 t_beside_), (h_t_worth, jB D 262144 t_worth_)]) (ws2 := [(h_t, .inr (8, [.int t_length, .ref h_t_text, .int t_at, .ref h_t_told, .ref h_t_touches, .ref h_t_has, .ref h_t_old, .ref h_t_beside, .int t_stones, .ref h_t_slot, .int t_kept, .int t_done, .int t_rows, .ref h_t_row, .ref h_t_free, .int r3.1, .ref h_t_worth, .ref h_t_fore, .ref h_t_back, .int t_fewest, .ref h_t_got])), (h_t_told, jI D 8 t_told_), (h_t_touches, jZ D 32 t_touches_), (h_t_has, jI D 4 t_has_), (h_t_beside, jI D 9 t_beside_), (h_t_slot, jI D 240 r1), (h_t_free, jI D 9 r3.2), (h_t_worth, jB D 262144 t_worth_)]) rfl rfl rfl rfl rfl (Nat.le_of_ble_eq_true rfl) dX10_plays_8 ?_
  refine j_iconst C dX10_plays_11 (v := (1 : Int32)) (by decide) ?_
  refine j_iconst C dX10_plays_12 (v := (2 : Int32)) (by decide) ?_
  refine j_aload_n C dX10_plays_13 rfl 0 rfl ?_
  refine j_get C ibX10 (ci := 8) 0 rfl rfl 15 (by decide) bfX10_147 (v := .int r3.1) rfl dX10_plays_14 ?_
  refine j_imul C dX10_plays_17 ?_
  refine j_ishl C dX10_plays_18 ?_
  refine j_iconst C dX10_plays_19 (v := (1 : Int32)) (by decide) ?_
  refine j_isub C dX10_plays_20 ?_
  refine j_istore_n C dX10_plays_21 rfl (lv' := fun v5 => [(2, .int v5), (0, .ref h_t), (1, .int p1)]) (by decide) (fun _ => rfl) h (fun v5 h => ?_)
  refine j_sub (lv' := [(0, .ref h_t), (1, .int p1), (2, .int v5)]) [1, 2, 0] rfl ?_
  exact L22 v5 r3.1 r1 r3.2 t_worth_ h
theorem dX10_wins_0 : decode cX10_wins 0 = .ok (.aload_n 0, 1) := by decide +kernel
theorem dX10_wins_1 : decode cX10_wins 1 = .ok (.iconst 0, 1) := by decide +kernel
theorem dX10_wins_2 : decode cX10_wins 2 = .ok (.aload_n 0, 1) := by decide +kernel
theorem dX10_wins_3 : decode cX10_wins 3 = .ok (.getfield 30, 3) := by decide +kernel
theorem dX10_wins_6 : decode cX10_wins 6 = .ok (.bipush 19, 2) := by decide +kernel
theorem dX10_wins_8 : decode cX10_wins 8 = .ok (.iaload, 1) := by decide +kernel
theorem dX10_wins_9 : decode cX10_wins 9 = .ok (.invokevirtual 174, 3) := by decide +kernel
theorem dX10_wins_12 : decode cX10_wins 12 = .ok (.iconst 0, 1) := by decide +kernel
theorem dX10_wins_13 : decode cX10_wins 13 = .ok (.istore_n 1, 1) := by decide +kernel
theorem dX10_wins_14 : decode cX10_wins 14 = .ok (.iload_n 1, 1) := by decide +kernel
theorem dX10_wins_15 : decode cX10_wins 15 = .ok (.aload_n 0, 1) := by decide +kernel
theorem dX10_wins_16 : decode cX10_wins 16 = .ok (.getfield 147, 3) := by decide +kernel
theorem dX10_wins_19 : decode cX10_wins 19 = .ok (.if_icmp .ge 69, 3) := by decide +kernel
theorem dX10_wins_22 : decode cX10_wins 22 = .ok (.iconst 1, 1) := by decide +kernel
theorem dX10_wins_23 : decode cX10_wins 23 = .ok (.istore_n 2, 1) := by decide +kernel
theorem dX10_wins_24 : decode cX10_wins 24 = .ok (.iload_n 2, 1) := by decide +kernel
theorem dX10_wins_25 : decode cX10_wins 25 = .ok (.aload_n 0, 1) := by decide +kernel
theorem dX10_wins_26 : decode cX10_wins 26 = .ok (.getfield 13, 3) := by decide +kernel
theorem dX10_wins_29 : decode cX10_wins 29 = .ok (.iconst 2, 1) := by decide +kernel
theorem dX10_wins_30 : decode cX10_wins 30 = .ok (.iaload, 1) := by decide +kernel
theorem dX10_wins_31 : decode cX10_wins 31 = .ok (.if_icmp .gt 51, 3) := by decide +kernel
theorem dX10_wins_34 : decode cX10_wins 34 = .ok (.aload_n 0, 1) := by decide +kernel
theorem dX10_wins_35 : decode cX10_wins 35 = .ok (.iconst 0, 1) := by decide +kernel
theorem dX10_wins_36 : decode cX10_wins 36 = .ok (.aload_n 0, 1) := by decide +kernel
theorem dX10_wins_37 : decode cX10_wins 37 = .ok (.getfield 36, 3) := by decide +kernel
theorem dX10_wins_40 : decode cX10_wins 40 = .ok (.iload_n 1, 1) := by decide +kernel
theorem dX10_wins_41 : decode cX10_wins 41 = .ok (.iaload, 1) := by decide +kernel
theorem dX10_wins_42 : decode cX10_wins 42 = .ok (.iload_n 2, 1) := by decide +kernel
theorem dX10_wins_43 : decode cX10_wins 43 = .ok (.invokevirtual 127, 3) := by decide +kernel
theorem dX10_wins_46 : decode cX10_wins 46 = .ok (.ifCond .eq 30, 3) := by decide +kernel
theorem dX10_wins_49 : decode cX10_wins 49 = .ok (.aload_n 0, 1) := by decide +kernel
theorem dX10_wins_50 : decode cX10_wins 50 = .ok (.getfield 40, 3) := by decide +kernel
theorem dX10_wins_53 : decode cX10_wins 53 = .ok (.iload_n 2, 1) := by decide +kernel
theorem dX10_wins_54 : decode cX10_wins 54 = .ok (.aload_n 0, 1) := by decide +kernel
theorem dX10_wins_55 : decode cX10_wins 55 = .ok (.iload_n 1, 1) := by decide +kernel
theorem dX10_wins_56 : decode cX10_wins 56 = .ok (.invokevirtual 177, 3) := by decide +kernel
theorem dX10_wins_59 : decode cX10_wins 59 = .ok (.imul, 1) := by decide +kernel
theorem dX10_wins_60 : decode cX10_wins 60 = .ok (.baload, 1) := by decide +kernel
theorem dX10_wins_61 : decode cX10_wins 61 = .ok (.ifCond .ne 15, 3) := by decide +kernel
theorem dX10_wins_64 : decode cX10_wins 64 = .ok (.bipush 10, 2) := by decide +kernel
theorem dX10_wins_66 : decode cX10_wins 66 = .ok (.aload_n 0, 1) := by decide +kernel
theorem dX10_wins_67 : decode cX10_wins 67 = .ok (.getfield 36, 3) := by decide +kernel
theorem dX10_wins_70 : decode cX10_wins 70 = .ok (.iload_n 1, 1) := by decide +kernel
theorem dX10_wins_71 : decode cX10_wins 71 = .ok (.iaload, 1) := by decide +kernel
theorem dX10_wins_72 : decode cX10_wins 72 = .ok (.imul, 1) := by decide +kernel
theorem dX10_wins_73 : decode cX10_wins 73 = .ok (.iload_n 2, 1) := by decide +kernel
theorem dX10_wins_74 : decode cX10_wins 74 = .ok (.iadd, 1) := by decide +kernel
theorem dX10_wins_75 : decode cX10_wins 75 = .ok (.ireturn, 1) := by decide +kernel
theorem dX10_wins_76 : decode cX10_wins 76 = .ok (.iinc 2 1, 3) := by decide +kernel
theorem dX10_wins_79 : decode cX10_wins 79 = .ok (.goto (-55), 3) := by decide +kernel
theorem dX10_wins_82 : decode cX10_wins 82 = .ok (.iinc 1 1, 3) := by decide +kernel
theorem dX10_wins_85 : decode cX10_wins 85 = .ok (.goto (-71), 3) := by decide +kernel
theorem dX10_wins_88 : decode cX10_wins 88 = .ok (.bipush (-4), 2) := by decide +kernel
theorem dX10_wins_90 : decode cX10_wins 90 = .ok (.ireturn, 1) := by decide +kernel
def bX10_wins_24 (F : Nat) (t_stones : Int32) (t_frees : Int32) (t_told_ : Nat → Int32) (t_touches_ : Nat → Int32) (t_has_ : Nat → Int32) (t_beside_ : Nat → Int32) (t_free_ : Nat → Int32) (t_worth_ : Nat → Int32) (k14 : Int32 → (Nat → Int32) → Option (Int32 × (Nat → Int32))) (k24 : Int32 → Int32 → (Nat → Int32) → Option (Int32 × (Nat → Int32))) (x6 : Int32) (x7 : Int32) (m_t_slot__8 : Nat → Int32) : Option (Int32 × (Nat → Int32)) :=
(if (t_told_ ((2 : Int32)).toNatClampNeg) < x7 then
(jl_let (x6 + Int32.ofInt (1)) fun v10 =>
(k14 v10 m_t_slot__8))
else
(if x6 < 0 ∨ 9 ≤ x6.toNatClampNeg then none else
((fX10_isMay F t_stones t_touches_ t_has_ t_beside_ m_t_slot__8 ((0 : Int32)) (t_free_ x6.toNatClampNeg) x7).bind fun r12 =>
(if r12 = 0 then
(jl_let (x7 + Int32.ofInt (1)) fun v15 =>
(k24 x6 v15 m_t_slot__8))
else
((fX10_step t_frees x6).bind fun r16 =>
(if (x7 * r16) < 0 ∨ 262144 ≤ (x7 * r16).toNatClampNeg then none else
(if (t_worth_ (x7 * r16).toNatClampNeg) = 0 then
(if x6 < 0 ∨ 9 ≤ x6.toNatClampNeg then none else
(some ((((10 : Int32)) * (t_free_ x6.toNatClampNeg)) + x7, m_t_slot__8)))
else
(jl_let (x7 + Int32.ofInt (1)) fun v21 =>
(k24 x6 v21 m_t_slot__8)))))))))
def lX10_wins_24 (F : Nat) (t_stones : Int32) (t_frees : Int32) (t_told_ : Nat → Int32) (t_touches_ : Nat → Int32) (t_has_ : Nat → Int32) (t_beside_ : Nat → Int32) (t_free_ : Nat → Int32) (t_worth_ : Nat → Int32) (k14 : Int32 → (Nat → Int32) → Option (Int32 × (Nat → Int32))) (F2 : Nat) (x6 : Int32) (x7 : Int32) (m_t_slot__8 : Nat → Int32) : Option (Int32 × (Nat → Int32)) := jl_loop3 (bX10_wins_24 F t_stones t_frees t_told_ t_touches_ t_has_ t_beside_ t_free_ t_worth_ k14) F2 x6 x7 m_t_slot__8
def bX10_wins_14 (F : Nat) (t_stones : Int32) (t_frees : Int32) (t_told_ : Nat → Int32) (t_touches_ : Nat → Int32) (t_has_ : Nat → Int32) (t_beside_ : Nat → Int32) (t_free_ : Nat → Int32) (t_worth_ : Nat → Int32)  (k14 : Int32 → (Nat → Int32) → Option (Int32 × (Nat → Int32))) (x3 : Int32) (m_t_slot__4 : Nat → Int32) : Option (Int32 × (Nat → Int32)) :=
(if t_frees ≤ x3 then
(some ((-4 : Int32), m_t_slot__4))
else
(lX10_wins_24 F t_stones t_frees t_told_ t_touches_ t_has_ t_beside_ t_free_ t_worth_ k14 F x3 ((1 : Int32)) m_t_slot__4))
def lX10_wins_14 (F : Nat) (t_stones : Int32) (t_frees : Int32) (t_told_ : Nat → Int32) (t_touches_ : Nat → Int32) (t_has_ : Nat → Int32) (t_beside_ : Nat → Int32) (t_free_ : Nat → Int32) (t_worth_ : Nat → Int32)  (F2 : Nat) (x3 : Int32) (m_t_slot__4 : Nat → Int32) : Option (Int32 × (Nat → Int32)) := jl_loop2 (bX10_wins_14 F t_stones t_frees t_told_ t_touches_ t_has_ t_beside_ t_free_ t_worth_ ) F2 x3 m_t_slot__4
def fX10_wins (F : Nat) (t_stones : Int32) (t_frees : Int32) (t_told_ : Nat → Int32) (t_touches_ : Nat → Int32) (t_has_ : Nat → Int32) (t_beside_ : Nat → Int32) (t_slot_ : Nat → Int32) (t_free_ : Nat → Int32) (t_worth_ : Nat → Int32) : Option (Int32 × (Nat → Int32)) :=
((fX10_fills F t_frees t_slot_ t_free_ ((0 : Int32)) (t_slot_ ((19 : Int32)).toNatClampNeg)).bind fun r1 =>
(lX10_wins_14 F t_stones t_frees t_told_ t_touches_ t_has_ t_beside_ t_free_ t_worth_ F ((0 : Int32)) r1))
def oX10_wins (D : jv_D) (h_t : Nat) (h_t_text : Nat) (h_t_told : Nat) (h_t_touches : Nat) (h_t_has : Nat) (h_t_old : Nat) (h_t_beside : Nat) (h_t_slot : Nat) (h_t_row : Nat) (h_t_free : Nat) (h_t_worth : Nat) (h_t_fore : Nat) (h_t_back : Nat) (h_t_got : Nat) (t_length : Int32) (t_at : Int32) (t_stones : Int32) (t_kept : Int32) (t_done : Int32) (t_rows : Int32) (t_frees : Int32) (t_fewest : Int32) (t_told_ : Nat → Int32) (t_touches_ : Nat → Int32) (t_has_ : Nat → Int32) (t_beside_ : Nat → Int32) (t_free_ : Nat → Int32) (t_worth_ : Nat → Int32) (r : Int32 × (Nat → Int32)) : va_W := [(h_t, .inr (8, [.int t_length, .ref h_t_text, .int t_at, .ref h_t_told, .ref h_t_touches, .ref h_t_has, .ref h_t_old, .ref h_t_beside, .int t_stones, .ref h_t_slot, .int t_kept, .int t_done, .int t_rows, .ref h_t_row, .ref h_t_free, .int t_frees, .ref h_t_worth, .ref h_t_fore, .ref h_t_back, .int t_fewest, .ref h_t_got])), (h_t_told, jI D 8 t_told_), (h_t_touches, jZ D 32 t_touches_), (h_t_has, jI D 4 t_has_), (h_t_beside, jI D 9 t_beside_), (h_t_slot, jI D 240 r.2), (h_t_free, jI D 9 t_free_), (h_t_worth, jB D 262144 t_worth_)]
set_option maxHeartbeats 40000000 in
set_option maxRecDepth 100000 in
theorem mX10_wins (l : Launch) (D : jv_D) (F : Nat) (h_t : Nat) (h_t_text : Nat) (h_t_told : Nat) (h_t_touches : Nat) (h_t_has : Nat) (h_t_old : Nat) (h_t_beside : Nat) (h_t_slot : Nat) (h_t_row : Nat) (h_t_free : Nat) (h_t_worth : Nat) (h_t_fore : Nat) (h_t_back : Nat) (h_t_got : Nat) (t_length : Int32) (t_at : Int32) (t_stones : Int32) (t_kept : Int32) (t_done : Int32) (t_rows : Int32) (t_frees : Int32) (t_fewest : Int32) (t_told_ : Nat → Int32) (t_touches_ : Nat → Int32) (t_has_ : Nat → Int32) (t_beside_ : Nat → Int32) (t_slot_ : Nat → Int32) (t_free_ : Nat → Int32) (t_worth_ : Nat → Int32) (r : Int32 × (Nat → Int32)) (h : fX10_wins F t_stones t_frees t_told_ t_touches_ t_has_ t_beside_ t_slot_ t_free_ t_worth_ = some r) : MM l yX10_wins (jW yX10_wins cX10_wins 3 (some .int)) ({ frames := 2, cells := 0, slots := 0, locals := 49 }) D [.ref h_t] [(h_t, .inr (8, [.int t_length, .ref h_t_text, .int t_at, .ref h_t_told, .ref h_t_touches, .ref h_t_has, .ref h_t_old, .ref h_t_beside, .int t_stones, .ref h_t_slot, .int t_kept, .int t_done, .int t_rows, .ref h_t_row, .ref h_t_free, .int t_frees, .ref h_t_worth, .ref h_t_fore, .ref h_t_back, .int t_fewest, .ref h_t_got])), (h_t_told, jI D 8 t_told_), (h_t_touches, jZ D 32 t_touches_), (h_t_has, jI D 4 t_has_), (h_t_beside, jI D 9 t_beside_), (h_t_slot, jI D 240 t_slot_), (h_t_free, jI D 9 t_free_), (h_t_worth, jB D 262144 t_worth_)] (some (.int r.1)) (oX10_wins D h_t h_t_text h_t_told h_t_touches h_t_has h_t_old h_t_beside h_t_slot h_t_row h_t_free h_t_worth h_t_fore h_t_back h_t_got t_length t_at t_stones t_kept t_done t_rows t_frees t_fewest t_told_ t_touches_ t_has_ t_beside_ t_free_ t_worth_ r) := by
  refine mn_of hpX10_wins (Nat.le_of_ble_eq_true rfl) ?_
  intro X hXl C E0 hN
  subst hXl
  replace C : JC D X 3 RX10 cX10_wins ({ frames := 2, cells := 0, slots := 0, locals := 49 }) := C
  have E : JE D X 0 0 (some .int) (fun _ : Unit => (some (.int r.1))) (fun _ : Unit => (oX10_wins D h_t h_t_text h_t_told h_t_touches h_t_has h_t_old h_t_beside h_t_slot h_t_row h_t_free h_t_worth h_t_fore h_t_back h_t_got t_length t_at t_stones t_kept t_done t_rows t_frees t_fewest t_told_ t_touches_ t_has_ t_beside_ t_free_ t_worth_ r)) := E0 0 0 rfl rfl
  clear E0 hN
  show JJ D X 3 0 0 0 [(0, .ref h_t)] [] [(h_t, .inr (8, [.int t_length, .ref h_t_text, .int t_at, .ref h_t_told, .ref h_t_touches, .ref h_t_has, .ref h_t_old, .ref h_t_beside, .int t_stones, .ref h_t_slot, .int t_kept, .int t_done, .int t_rows, .ref h_t_row, .ref h_t_free, .int t_frees, .ref h_t_worth, .ref h_t_fore, .ref h_t_back, .int t_fewest, .ref h_t_got])), (h_t_told, jI D 8 t_told_), (h_t_touches, jZ D 32 t_touches_), (h_t_has, jI D 4 t_has_), (h_t_beside, jI D 9 t_beside_), (h_t_slot, jI D 240 t_slot_), (h_t_free, jI D 9 t_free_), (h_t_worth, jB D 262144 t_worth_)]
  unfold fX10_wins at h
  have L14 : ∀ (x3 : Int32) (m_t_slot__4 : Nat → Int32), lX10_wins_14 F t_stones t_frees t_told_ t_touches_ t_has_ t_beside_ t_free_ t_worth_  F x3 m_t_slot__4 = some r → JJ D X 3 0 0 14 [(0, .ref h_t), (1, .int x3)] [] [(h_t, .inr (8, [.int t_length, .ref h_t_text, .int t_at, .ref h_t_told, .ref h_t_touches, .ref h_t_has, .ref h_t_old, .ref h_t_beside, .int t_stones, .ref h_t_slot, .int t_kept, .int t_done, .int t_rows, .ref h_t_row, .ref h_t_free, .int t_frees, .ref h_t_worth, .ref h_t_fore, .ref h_t_back, .int t_fewest, .ref h_t_got])), (h_t_told, jI D 8 t_told_), (h_t_touches, jZ D 32 t_touches_), (h_t_has, jI D 4 t_has_), (h_t_beside, jI D 9 t_beside_), (h_t_slot, jI D 240 m_t_slot__4), (h_t_free, jI D 9 t_free_), (h_t_worth, jB D 262144 t_worth_)] := by
    intro x3 m_t_slot__4 h
    refine jl_ind2 (fun x3 m_t_slot__4 => JJ D X 3 0 0 14 [(0, .ref h_t), (1, .int x3)] [] [(h_t, .inr (8, [.int t_length, .ref h_t_text, .int t_at, .ref h_t_told, .ref h_t_touches, .ref h_t_has, .ref h_t_old, .ref h_t_beside, .int t_stones, .ref h_t_slot, .int t_kept, .int t_done, .int t_rows, .ref h_t_row, .ref h_t_free, .int t_frees, .ref h_t_worth, .ref h_t_fore, .ref h_t_back, .int t_fewest, .ref h_t_got])), (h_t_told, jI D 8 t_told_), (h_t_touches, jZ D 32 t_touches_), (h_t_has, jI D 4 t_has_), (h_t_beside, jI D 9 t_beside_), (h_t_slot, jI D 240 m_t_slot__4), (h_t_free, jI D 9 t_free_), (h_t_worth, jB D 262144 t_worth_)]) ?_ F x3 m_t_slot__4 h
    clear h x3 m_t_slot__4
    intro k14 i14 x3 m_t_slot__4 h
    replace i14 : ∀ (x3 : Int32) (m_t_slot__4 : Nat → Int32), k14 x3 m_t_slot__4 = some r → JJ D X 3 0 0 14 [(0, .ref h_t), (1, .int x3)] [] [(h_t, .inr (8, [.int t_length, .ref h_t_text, .int t_at, .ref h_t_told, .ref h_t_touches, .ref h_t_has, .ref h_t_old, .ref h_t_beside, .int t_stones, .ref h_t_slot, .int t_kept, .int t_done, .int t_rows, .ref h_t_row, .ref h_t_free, .int t_frees, .ref h_t_worth, .ref h_t_fore, .ref h_t_back, .int t_fewest, .ref h_t_got])), (h_t_told, jI D 8 t_told_), (h_t_touches, jZ D 32 t_touches_), (h_t_has, jI D 4 t_has_), (h_t_beside, jI D 9 t_beside_), (h_t_slot, jI D 240 m_t_slot__4), (h_t_free, jI D 9 t_free_), (h_t_worth, jB D 262144 t_worth_)] := i14
    show JJ D X 3 0 0 14 [(0, .ref h_t), (1, .int x3)] [] [(h_t, .inr (8, [.int t_length, .ref h_t_text, .int t_at, .ref h_t_told, .ref h_t_touches, .ref h_t_has, .ref h_t_old, .ref h_t_beside, .int t_stones, .ref h_t_slot, .int t_kept, .int t_done, .int t_rows, .ref h_t_row, .ref h_t_free, .int t_frees, .ref h_t_worth, .ref h_t_fore, .ref h_t_back, .int t_fewest, .ref h_t_got])), (h_t_told, jI D 8 t_told_), (h_t_touches, jZ D 32 t_touches_), (h_t_has, jI D 4 t_has_), (h_t_beside, jI D 9 t_beside_), (h_t_slot, jI D 240 m_t_slot__4), (h_t_free, jI D 9 t_free_), (h_t_worth, jB D 262144 t_worth_)]
    unfold bX10_wins_14 at h
    have L24 : ∀ (x6 : Int32) (x7 : Int32) (m_t_slot__8 : Nat → Int32), lX10_wins_24 F t_stones t_frees t_told_ t_touches_ t_has_ t_beside_ t_free_ t_worth_ k14 F x6 x7 m_t_slot__8 = some r → JJ D X 3 0 0 24 [(0, .ref h_t), (1, .int x6), (2, .int x7)] [] [(h_t, .inr (8, [.int t_length, .ref h_t_text, .int t_at, .ref h_t_told, .ref h_t_touches, .ref h_t_has, .ref h_t_old, .ref h_t_beside, .int t_stones, .ref h_t_slot, .int t_kept, .int t_done, .int t_rows, .ref h_t_row, .ref h_t_free, .int t_frees, .ref h_t_worth, .ref h_t_fore, .ref h_t_back, .int t_fewest, .ref h_t_got])), (h_t_told, jI D 8 t_told_), (h_t_touches, jZ D 32 t_touches_), (h_t_has, jI D 4 t_has_), (h_t_beside, jI D 9 t_beside_), (h_t_slot, jI D 240 m_t_slot__8), (h_t_free, jI D 9 t_free_), (h_t_worth, jB D 262144 t_worth_)] := by
      intro x6 x7 m_t_slot__8 h
      refine jl_ind3 (fun x6 x7 m_t_slot__8 => JJ D X 3 0 0 24 [(0, .ref h_t), (1, .int x6), (2, .int x7)] [] [(h_t, .inr (8, [.int t_length, .ref h_t_text, .int t_at, .ref h_t_told, .ref h_t_touches, .ref h_t_has, .ref h_t_old, .ref h_t_beside, .int t_stones, .ref h_t_slot, .int t_kept, .int t_done, .int t_rows, .ref h_t_row, .ref h_t_free, .int t_frees, .ref h_t_worth, .ref h_t_fore, .ref h_t_back, .int t_fewest, .ref h_t_got])), (h_t_told, jI D 8 t_told_), (h_t_touches, jZ D 32 t_touches_), (h_t_has, jI D 4 t_has_), (h_t_beside, jI D 9 t_beside_), (h_t_slot, jI D 240 m_t_slot__8), (h_t_free, jI D 9 t_free_), (h_t_worth, jB D 262144 t_worth_)]) ?_ F x6 x7 m_t_slot__8 h
      clear h x6 x7 m_t_slot__8
      intro k24 i24 x6 x7 m_t_slot__8 h
      replace i24 : ∀ (x6 : Int32) (x7 : Int32) (m_t_slot__8 : Nat → Int32), k24 x6 x7 m_t_slot__8 = some r → JJ D X 3 0 0 24 [(0, .ref h_t), (1, .int x6), (2, .int x7)] [] [(h_t, .inr (8, [.int t_length, .ref h_t_text, .int t_at, .ref h_t_told, .ref h_t_touches, .ref h_t_has, .ref h_t_old, .ref h_t_beside, .int t_stones, .ref h_t_slot, .int t_kept, .int t_done, .int t_rows, .ref h_t_row, .ref h_t_free, .int t_frees, .ref h_t_worth, .ref h_t_fore, .ref h_t_back, .int t_fewest, .ref h_t_got])), (h_t_told, jI D 8 t_told_), (h_t_touches, jZ D 32 t_touches_), (h_t_has, jI D 4 t_has_), (h_t_beside, jI D 9 t_beside_), (h_t_slot, jI D 240 m_t_slot__8), (h_t_free, jI D 9 t_free_), (h_t_worth, jB D 262144 t_worth_)] := i24
      show JJ D X 3 0 0 24 [(0, .ref h_t), (1, .int x6), (2, .int x7)] [] [(h_t, .inr (8, [.int t_length, .ref h_t_text, .int t_at, .ref h_t_told, .ref h_t_touches, .ref h_t_has, .ref h_t_old, .ref h_t_beside, .int t_stones, .ref h_t_slot, .int t_kept, .int t_done, .int t_rows, .ref h_t_row, .ref h_t_free, .int t_frees, .ref h_t_worth, .ref h_t_fore, .ref h_t_back, .int t_fewest, .ref h_t_got])), (h_t_told, jI D 8 t_told_), (h_t_touches, jZ D 32 t_touches_), (h_t_has, jI D 4 t_has_), (h_t_beside, jI D 9 t_beside_), (h_t_slot, jI D 240 m_t_slot__8), (h_t_free, jI D 9 t_free_), (h_t_worth, jB D 262144 t_worth_)]
      unfold bX10_wins_24 at h
      refine j_iload_n C dX10_wins_24 rfl 2 rfl ?_
      refine j_aload_n C dX10_wins_25 rfl 0 rfl ?_
      refine j_get C ibX10 (ci := 8) 0 rfl rfl 3 (by decide) bfX10_13 (v := .ref h_t_told) rfl dX10_wins_26 ?_
      refine j_iconst C dX10_wins_29 (v := (2 : Int32)) (by decide) ?_
      refine j_iald C 1 rfl (by unfold vp_in; decide) dX10_wins_30 ?_
      refine j_icmp_gt C (tgt := 82) dX10_wins_31 (by decide) h (fun c9 h => ?_) (fun c9 h => ?_)
      · refine j_iinc C dX10_wins_82 1 rfl (lv' := fun v10 => [(1, .int v10), (0, .ref h_t), (2, .int x7)]) (by decide) (fun _ => rfl) h (fun v10 h => ?_)
        refine j_goto C dX10_wins_85 (tgt := 14) (by decide) ?_
        refine j_sub (lv' := [(0, .ref h_t), (1, .int v10)]) [1, 0] rfl ?_
        exact i14 v10 m_t_slot__8 h
      · refine j_aload_n C dX10_wins_34 rfl 0 rfl ?_
        refine j_iconst C dX10_wins_35 (v := (0 : Int32)) (by decide) ?_
        refine j_aload_n C dX10_wins_36 rfl 0 rfl ?_
        refine j_get C ibX10 (ci := 8) 0 rfl rfl 14 (by decide) bfX10_36 (v := .ref h_t_free) rfl dX10_wins_37 ?_
        refine j_iload_n C dX10_wins_40 rfl 1 rfl ?_
        refine jl_inb h (fun b11 h => ?_)
        refine j_iald C 6 rfl b11 dX10_wins_41 ?_
        refine j_iload_n C dX10_wins_42 rfl 2 rfl ?_
        obtain ⟨r12, q13, h⟩ := jl_bind h
        refine j_cV1 C (mX10_isMay (jlaunch X) D F h_t h_t_text h_t_told h_t_touches h_t_has h_t_old h_t_beside h_t_slot h_t_row h_t_free h_t_worth h_t_fore h_t_back h_t_got t_length t_at t_stones t_kept t_done t_rows t_frees t_fewest t_touches_ t_has_ t_beside_ m_t_slot__8 ((0 : Int32)) (t_free_ x6.toNatClampNeg) x7 r12 q13) bmX10_127 biX10_isMay bsX10_isMay bzX10 bcX10_isMay rfl hX10_isMay (rest := []) rfl (jroom_of rfl) 0 (ci := 8) rfl rfl rfl [0, 2, 3, 4, 5] [1, 6, 7] [3, 0, 4, 5, 6, 7, 1, 2] (wr := [(h_t_told, jI D 8 t_told_), (h_t_free, jI D 9 t_free_), (h_t_worth, jB D 262144 t_worth_)]) (ws2 := [(h_t, .inr (8, [.int t_length, .ref h_t_text, .int t_at, .ref h_t_told, .ref h_t_touches, .ref h_t_has, .ref h_t_old, .ref h_t_beside, .int t_stones, .ref h_t_slot, .int t_kept, .int t_done, .int t_rows, .ref h_t_row, .ref h_t_free, .int t_frees, .ref h_t_worth, .ref h_t_fore, .ref h_t_back, .int t_fewest, .ref h_t_got])), (h_t_told, jI D 8 t_told_), (h_t_touches, jZ D 32 t_touches_), (h_t_has, jI D 4 t_has_), (h_t_beside, jI D 9 t_beside_), (h_t_slot, jI D 240 m_t_slot__8), (h_t_free, jI D 9 t_free_), (h_t_worth, jB D 262144 t_worth_)]) rfl rfl rfl rfl rfl (Nat.le_of_ble_eq_true rfl) dX10_wins_43 ?_
        refine j_if_eq C (tgt := 76) dX10_wins_46 (by decide) h (fun c14 h => ?_) (fun c14 h => ?_)
        · refine j_iinc C dX10_wins_76 2 rfl (lv' := fun v15 => [(2, .int v15), (0, .ref h_t), (1, .int x6)]) (by decide) (fun _ => rfl) h (fun v15 h => ?_)
          refine j_goto C dX10_wins_79 (tgt := 24) (by decide) ?_
          refine j_sub (lv' := [(0, .ref h_t), (1, .int x6), (2, .int v15)]) [1, 2, 0] rfl ?_
          exact i24 x6 v15 m_t_slot__8 h
        · refine j_aload_n C dX10_wins_49 rfl 0 rfl ?_
          refine j_get C ibX10 (ci := 8) 0 rfl rfl 16 (by decide) bfX10_40 (v := .ref h_t_worth) rfl dX10_wins_50 ?_
          refine j_iload_n C dX10_wins_53 rfl 2 rfl ?_
          refine j_aload_n C dX10_wins_54 rfl 0 rfl ?_
          refine j_iload_n C dX10_wins_55 rfl 1 rfl ?_
          obtain ⟨r16, q17, h⟩ := jl_bind h
          refine j_cV1 C (mX10_step (jlaunch X) D h_t h_t_text h_t_told h_t_touches h_t_has h_t_old h_t_beside h_t_slot h_t_row h_t_free h_t_worth h_t_fore h_t_back h_t_got t_length t_at t_stones t_kept t_done t_rows t_frees t_fewest x6 r16 q17) bmX10_177 biX10_step bsX10_step bzX10 bcX10_step rfl hX10_step (rest := [.int x7, .ref h_t_worth]) rfl (jroom_of rfl) 0 (ci := 8) rfl rfl rfl [0] [1, 2, 3, 4, 5, 6, 7] [7, 0, 1, 2, 3, 4, 5, 6] (wr := [(h_t_told, jI D 8 t_told_), (h_t_touches, jZ D 32 t_touches_), (h_t_has, jI D 4 t_has_), (h_t_beside, jI D 9 t_beside_), (h_t_slot, jI D 240 m_t_slot__8), (h_t_free, jI D 9 t_free_), (h_t_worth, jB D 262144 t_worth_)]) (ws2 := [(h_t, .inr (8, [.int t_length, .ref h_t_text, .int t_at, .ref h_t_told, .ref h_t_touches, .ref h_t_has, .ref h_t_old, .ref h_t_beside, .int t_stones, .ref h_t_slot, .int t_kept, .int t_done, .int t_rows, .ref h_t_row, .ref h_t_free, .int t_frees, .ref h_t_worth, .ref h_t_fore, .ref h_t_back, .int t_fewest, .ref h_t_got])), (h_t_told, jI D 8 t_told_), (h_t_touches, jZ D 32 t_touches_), (h_t_has, jI D 4 t_has_), (h_t_beside, jI D 9 t_beside_), (h_t_slot, jI D 240 m_t_slot__8), (h_t_free, jI D 9 t_free_), (h_t_worth, jB D 262144 t_worth_)]) rfl rfl rfl rfl rfl (Nat.le_of_ble_eq_true rfl) dX10_wins_56 ?_
          refine j_imul C dX10_wins_59 ?_
          refine jl_inb h (fun b18 h => ?_)
          refine j_bald C 7 rfl b18 dX10_wins_60 ?_
          refine j_if_ne C (tgt := 76) dX10_wins_61 (by decide) h (fun c19 h => ?_) (fun c19 h => ?_)
          · refine j_bipush C dX10_wins_64 (v := (10 : Int32)) (by decide) ?_
            refine j_aload_n C dX10_wins_66 rfl 0 rfl ?_
            refine j_get C ibX10 (ci := 8) 0 rfl rfl 14 (by decide) bfX10_36 (v := .ref h_t_free) rfl dX10_wins_67 ?_
            refine j_iload_n C dX10_wins_70 rfl 1 rfl ?_
            refine jl_inb h (fun b20 h => ?_)
            refine j_iald C 6 rfl b20 dX10_wins_71 ?_
            refine j_imul C dX10_wins_72 ?_
            refine j_iload_n C dX10_wins_73 rfl 2 rfl ?_
            refine j_iadd C dX10_wins_74 ?_
            exact j_iretR C (r := r) (rtf := fun r => (some (.int r.1))) (wff := fun r => (oX10_wins D h_t h_t_text h_t_told h_t_touches h_t_has h_t_old h_t_beside h_t_slot h_t_row h_t_free h_t_worth h_t_fore h_t_back h_t_got t_length t_at t_stones t_kept t_done t_rows t_frees t_fewest t_told_ t_touches_ t_has_ t_beside_ t_free_ t_worth_ r)) E h rfl rfl dX10_wins_75
          · refine j_iinc C dX10_wins_76 2 rfl (lv' := fun v21 => [(2, .int v21), (0, .ref h_t), (1, .int x6)]) (by decide) (fun _ => rfl) h (fun v21 h => ?_)
            refine j_goto C dX10_wins_79 (tgt := 24) (by decide) ?_
            refine j_sub (lv' := [(0, .ref h_t), (1, .int x6), (2, .int v21)]) [1, 2, 0] rfl ?_
            exact i24 x6 v21 m_t_slot__8 h
    refine j_iload_n C dX10_wins_14 rfl 1 rfl ?_
    refine j_aload_n C dX10_wins_15 rfl 0 rfl ?_
    refine j_get C ibX10 (ci := 8) 0 rfl rfl 15 (by decide) bfX10_147 (v := .int t_frees) rfl dX10_wins_16 ?_
    refine j_icmp_ge C (tgt := 88) dX10_wins_19 (by decide) h (fun c5 h => ?_) (fun c5 h => ?_)
    · refine j_bipush C dX10_wins_88 (v := (-4 : Int32)) (by decide) ?_
      exact j_iretR C (r := r) (rtf := fun r => (some (.int r.1))) (wff := fun r => (oX10_wins D h_t h_t_text h_t_told h_t_touches h_t_has h_t_old h_t_beside h_t_slot h_t_row h_t_free h_t_worth h_t_fore h_t_back h_t_got t_length t_at t_stones t_kept t_done t_rows t_frees t_fewest t_told_ t_touches_ t_has_ t_beside_ t_free_ t_worth_ r)) E h rfl rfl dX10_wins_90
    · refine j_iconst C dX10_wins_22 (v := (1 : Int32)) (by decide) ?_
      refine j_istore_nC C dX10_wins_23 rfl (lv' := [(2, .int ((1 : Int32))), (0, .ref h_t), (1, .int x3)]) (by decide) rfl ?_
      refine j_sub (lv' := [(0, .ref h_t), (1, .int x3), (2, .int ((1 : Int32)))]) [1, 2, 0] rfl ?_
      exact L24 x3 ((1 : Int32)) m_t_slot__4 h
  refine j_aload_n C dX10_wins_0 rfl 0 rfl ?_
  refine j_iconst C dX10_wins_1 (v := (0 : Int32)) (by decide) ?_
  refine j_aload_n C dX10_wins_2 rfl 0 rfl ?_
  refine j_get C ibX10 (ci := 8) 0 rfl rfl 9 (by decide) bfX10_30 (v := .ref h_t_slot) rfl dX10_wins_3 ?_
  refine j_bipush C dX10_wins_6 (v := (19 : Int32)) (by decide) ?_
  refine j_iald C 5 rfl (by unfold vp_in; decide) dX10_wins_8 ?_
  obtain ⟨r1, q2, h⟩ := jl_bind h
  refine j_cV0 C (mX10_fills (jlaunch X) D F h_t h_t_text h_t_told h_t_touches h_t_has h_t_old h_t_beside h_t_slot h_t_row h_t_free h_t_worth h_t_fore h_t_back h_t_got t_length t_at t_stones t_kept t_done t_rows t_frees t_fewest t_slot_ t_free_ ((0 : Int32)) (t_slot_ ((19 : Int32)).toNatClampNeg) r1 q2) bmX10_174 biX10_fills bsX10_fills bzX10 bcX10_fills rfl hX10_fills (rest := []) rfl (jroom_of rfl) 0 (ci := 8) rfl rfl rfl [0, 5, 6] [1, 2, 3, 4, 7] [5, 0, 1, 2, 3, 6, 7, 4] (wr := [(h_t_told, jI D 8 t_told_), (h_t_touches, jZ D 32 t_touches_), (h_t_has, jI D 4 t_has_), (h_t_beside, jI D 9 t_beside_), (h_t_worth, jB D 262144 t_worth_)]) (ws2 := [(h_t, .inr (8, [.int t_length, .ref h_t_text, .int t_at, .ref h_t_told, .ref h_t_touches, .ref h_t_has, .ref h_t_old, .ref h_t_beside, .int t_stones, .ref h_t_slot, .int t_kept, .int t_done, .int t_rows, .ref h_t_row, .ref h_t_free, .int t_frees, .ref h_t_worth, .ref h_t_fore, .ref h_t_back, .int t_fewest, .ref h_t_got])), (h_t_told, jI D 8 t_told_), (h_t_touches, jZ D 32 t_touches_), (h_t_has, jI D 4 t_has_), (h_t_beside, jI D 9 t_beside_), (h_t_slot, jI D 240 r1), (h_t_free, jI D 9 t_free_), (h_t_worth, jB D 262144 t_worth_)]) rfl rfl rfl rfl rfl (Nat.le_of_ble_eq_true rfl) dX10_wins_9 ?_
  refine j_iconst C dX10_wins_12 (v := (0 : Int32)) (by decide) ?_
  refine j_istore_nC C dX10_wins_13 rfl (lv' := [(1, .int ((0 : Int32))), (0, .ref h_t)]) (by decide) rfl ?_
  refine j_sub (lv' := [(0, .ref h_t), (1, .int ((0 : Int32)))]) [1, 0] rfl ?_
  exact L14 ((0 : Int32)) r1 h
theorem dX10_beer_0 : decode cX10_beer 0 = .ok (.iload_n 1, 1) := by decide +kernel
theorem dX10_beer_1 : decode cX10_beer 1 = .ok (.i2l, 1) := by decide +kernel
theorem dX10_beer_2 : decode cX10_beer 2 = .ok (.lconst 0, 1) := by decide +kernel
theorem dX10_beer_3 : decode cX10_beer 3 = .ok (.lconst 1, 1) := by decide +kernel
theorem dX10_beer_4 : decode cX10_beer 4 = .ok (.invokestatic 60, 3) := by decide +kernel
theorem dX10_beer_7 : decode cX10_beer 7 = .ok (.ifCond .ne 5, 3) := by decide +kernel
theorem dX10_beer_10 : decode cX10_beer 10 = .ok (.iconst (-1), 1) := by decide +kernel
theorem dX10_beer_11 : decode cX10_beer 11 = .ok (.ireturn, 1) := by decide +kernel
theorem dX10_beer_12 : decode cX10_beer 12 = .ok (.aload_n 0, 1) := by decide +kernel
theorem dX10_beer_13 : decode cX10_beer 13 = .ok (.iconst (-1), 1) := by decide +kernel
theorem dX10_beer_14 : decode cX10_beer 14 = .ok (.invokevirtual 180, 3) := by decide +kernel
theorem dX10_beer_17 : decode cX10_beer 17 = .ok (.iload_n 1, 1) := by decide +kernel
theorem dX10_beer_18 : decode cX10_beer 18 = .ok (.ifCond .ne 12, 3) := by decide +kernel
theorem dX10_beer_21 : decode cX10_beer 21 = .ok (.aload_n 0, 1) := by decide +kernel
theorem dX10_beer_22 : decode cX10_beer 22 = .ok (.getfield 40, 3) := by decide +kernel
theorem dX10_beer_25 : decode cX10_beer 25 = .ok (.iconst 0, 1) := by decide +kernel
theorem dX10_beer_26 : decode cX10_beer 26 = .ok (.baload, 1) := by decide +kernel
theorem dX10_beer_27 : decode cX10_beer 27 = .ok (.goto 7, 3) := by decide +kernel
theorem dX10_beer_30 : decode cX10_beer 30 = .ok (.aload_n 0, 1) := by decide +kernel
theorem dX10_beer_31 : decode cX10_beer 31 = .ok (.invokevirtual 184, 3) := by decide +kernel
theorem dX10_beer_34 : decode cX10_beer 34 = .ok (.ireturn, 1) := by decide +kernel
def fX10_beer (F : Nat) (t_stones : Int32) (t_frees : Int32) (t_told_ : Nat → Int32) (t_touches_ : Nat → Int32) (t_has_ : Nat → Int32) (t_beside_ : Nat → Int32) (t_slot_ : Nat → Int32) (t_free_ : Nat → Int32) (t_worth_ : Nat → Int32) (p1 : Int32) : Option (Int32 × Int32 × (Nat → Int32) × (Nat → Int32) × (Nat → Int32)) :=
((fX10_in p1.toInt64 ((0 : Int64)) ((1 : Int64))).bind fun r1 =>
(if r1 = 0 then
(some ((-1 : Int32), t_frees, t_slot_, t_free_, t_worth_))
else
((fX10_plays F t_stones t_frees t_told_ t_touches_ t_has_ t_beside_ t_slot_ t_free_ t_worth_ ((-1 : Int32))).bind fun r4 =>
(if p1 = 0 then
(some (r4.2.2.2 ((0 : Int32)).toNatClampNeg, r4.1, r4.2.1, r4.2.2.1, r4.2.2.2))
else
((fX10_wins F t_stones r4.1 t_told_ t_touches_ t_has_ t_beside_ r4.2.1 r4.2.2.1 r4.2.2.2).bind fun r7 =>
(some (r7.1, r4.1, r7.2, r4.2.2.1, r4.2.2.2)))))))
def oX10_beer (D : jv_D) (h_t : Nat) (h_t_text : Nat) (h_t_told : Nat) (h_t_touches : Nat) (h_t_has : Nat) (h_t_old : Nat) (h_t_beside : Nat) (h_t_slot : Nat) (h_t_row : Nat) (h_t_free : Nat) (h_t_worth : Nat) (h_t_fore : Nat) (h_t_back : Nat) (h_t_got : Nat) (t_length : Int32) (t_at : Int32) (t_stones : Int32) (t_kept : Int32) (t_done : Int32) (t_rows : Int32) (t_fewest : Int32) (t_told_ : Nat → Int32) (t_touches_ : Nat → Int32) (t_has_ : Nat → Int32) (t_beside_ : Nat → Int32) (r : Int32 × Int32 × (Nat → Int32) × (Nat → Int32) × (Nat → Int32)) : va_W := [(h_t, .inr (8, [.int t_length, .ref h_t_text, .int t_at, .ref h_t_told, .ref h_t_touches, .ref h_t_has, .ref h_t_old, .ref h_t_beside, .int t_stones, .ref h_t_slot, .int t_kept, .int t_done, .int t_rows, .ref h_t_row, .ref h_t_free, .int r.2.1, .ref h_t_worth, .ref h_t_fore, .ref h_t_back, .int t_fewest, .ref h_t_got])), (h_t_told, jI D 8 t_told_), (h_t_touches, jZ D 32 t_touches_), (h_t_has, jI D 4 t_has_), (h_t_beside, jI D 9 t_beside_), (h_t_slot, jI D 240 r.2.2.1), (h_t_free, jI D 9 r.2.2.2.1), (h_t_worth, jB D 262144 r.2.2.2.2)]
set_option maxHeartbeats 40000000 in
set_option maxRecDepth 100000 in
theorem mX10_beer (l : Launch) (D : jv_D) (F : Nat) (h_t : Nat) (h_t_text : Nat) (h_t_told : Nat) (h_t_touches : Nat) (h_t_has : Nat) (h_t_old : Nat) (h_t_beside : Nat) (h_t_slot : Nat) (h_t_row : Nat) (h_t_free : Nat) (h_t_worth : Nat) (h_t_fore : Nat) (h_t_back : Nat) (h_t_got : Nat) (t_length : Int32) (t_at : Int32) (t_stones : Int32) (t_kept : Int32) (t_done : Int32) (t_rows : Int32) (t_frees : Int32) (t_fewest : Int32) (t_told_ : Nat → Int32) (t_touches_ : Nat → Int32) (t_has_ : Nat → Int32) (t_beside_ : Nat → Int32) (t_slot_ : Nat → Int32) (t_free_ : Nat → Int32) (t_worth_ : Nat → Int32) (p1 : Int32) (r : Int32 × Int32 × (Nat → Int32) × (Nat → Int32) × (Nat → Int32)) (h : fX10_beer F t_stones t_frees t_told_ t_touches_ t_has_ t_beside_ t_slot_ t_free_ t_worth_ p1 = some r) : MM l yX10_beer (jW yX10_beer cX10_beer 2 (some .int)) ({ frames := 3, cells := 0, slots := 0, locals := 79 }) D [.ref h_t, .int p1] [(h_t, .inr (8, [.int t_length, .ref h_t_text, .int t_at, .ref h_t_told, .ref h_t_touches, .ref h_t_has, .ref h_t_old, .ref h_t_beside, .int t_stones, .ref h_t_slot, .int t_kept, .int t_done, .int t_rows, .ref h_t_row, .ref h_t_free, .int t_frees, .ref h_t_worth, .ref h_t_fore, .ref h_t_back, .int t_fewest, .ref h_t_got])), (h_t_told, jI D 8 t_told_), (h_t_touches, jZ D 32 t_touches_), (h_t_has, jI D 4 t_has_), (h_t_beside, jI D 9 t_beside_), (h_t_slot, jI D 240 t_slot_), (h_t_free, jI D 9 t_free_), (h_t_worth, jB D 262144 t_worth_)] (some (.int r.1)) (oX10_beer D h_t h_t_text h_t_told h_t_touches h_t_has h_t_old h_t_beside h_t_slot h_t_row h_t_free h_t_worth h_t_fore h_t_back h_t_got t_length t_at t_stones t_kept t_done t_rows t_fewest t_told_ t_touches_ t_has_ t_beside_ r) := by
  refine mn_of hpX10_beer (Nat.le_of_ble_eq_true rfl) ?_
  intro X hXl C E0 hN
  subst hXl
  replace C : JC D X 2 RX10 cX10_beer ({ frames := 3, cells := 0, slots := 0, locals := 79 }) := C
  have E : JE D X 0 0 (some .int) (fun _ : Unit => (some (.int r.1))) (fun _ : Unit => (oX10_beer D h_t h_t_text h_t_told h_t_touches h_t_has h_t_old h_t_beside h_t_slot h_t_row h_t_free h_t_worth h_t_fore h_t_back h_t_got t_length t_at t_stones t_kept t_done t_rows t_fewest t_told_ t_touches_ t_has_ t_beside_ r)) := E0 0 0 rfl rfl
  clear E0 hN
  show JJ D X 2 0 0 0 [(0, .ref h_t), (1, .int p1)] [] [(h_t, .inr (8, [.int t_length, .ref h_t_text, .int t_at, .ref h_t_told, .ref h_t_touches, .ref h_t_has, .ref h_t_old, .ref h_t_beside, .int t_stones, .ref h_t_slot, .int t_kept, .int t_done, .int t_rows, .ref h_t_row, .ref h_t_free, .int t_frees, .ref h_t_worth, .ref h_t_fore, .ref h_t_back, .int t_fewest, .ref h_t_got])), (h_t_told, jI D 8 t_told_), (h_t_touches, jZ D 32 t_touches_), (h_t_has, jI D 4 t_has_), (h_t_beside, jI D 9 t_beside_), (h_t_slot, jI D 240 t_slot_), (h_t_free, jI D 9 t_free_), (h_t_worth, jB D 262144 t_worth_)]
  unfold fX10_beer at h
  refine j_iload_n C dX10_beer_0 rfl 1 rfl ?_
  refine j_i2l C dX10_beer_1 ?_
  refine j_lconst C dX10_beer_2 (v := (0 : Int64)) (by decide) ?_
  refine j_lconst C dX10_beer_3 (v := (1 : Int64)) (by decide) ?_
  obtain ⟨r1, q2, h⟩ := jl_bind h
  refine j_cS1 C (mX10_in (jlaunch X) D p1.toInt64 ((0 : Int64)) ((1 : Int64)) r1 q2) bmX10_60 btX10_in bzX10 bcX10_in hX10_in (rest := []) rfl (jroom_of rfl) [] [0, 1, 2, 3, 4, 5, 6, 7] [0, 1, 2, 3, 4, 5, 6, 7] (wr := [(h_t, .inr (8, [.int t_length, .ref h_t_text, .int t_at, .ref h_t_told, .ref h_t_touches, .ref h_t_has, .ref h_t_old, .ref h_t_beside, .int t_stones, .ref h_t_slot, .int t_kept, .int t_done, .int t_rows, .ref h_t_row, .ref h_t_free, .int t_frees, .ref h_t_worth, .ref h_t_fore, .ref h_t_back, .int t_fewest, .ref h_t_got])), (h_t_told, jI D 8 t_told_), (h_t_touches, jZ D 32 t_touches_), (h_t_has, jI D 4 t_has_), (h_t_beside, jI D 9 t_beside_), (h_t_slot, jI D 240 t_slot_), (h_t_free, jI D 9 t_free_), (h_t_worth, jB D 262144 t_worth_)]) (ws2 := [(h_t, .inr (8, [.int t_length, .ref h_t_text, .int t_at, .ref h_t_told, .ref h_t_touches, .ref h_t_has, .ref h_t_old, .ref h_t_beside, .int t_stones, .ref h_t_slot, .int t_kept, .int t_done, .int t_rows, .ref h_t_row, .ref h_t_free, .int t_frees, .ref h_t_worth, .ref h_t_fore, .ref h_t_back, .int t_fewest, .ref h_t_got])), (h_t_told, jI D 8 t_told_), (h_t_touches, jZ D 32 t_touches_), (h_t_has, jI D 4 t_has_), (h_t_beside, jI D 9 t_beside_), (h_t_slot, jI D 240 t_slot_), (h_t_free, jI D 9 t_free_), (h_t_worth, jB D 262144 t_worth_)]) rfl rfl rfl rfl rfl (Nat.le_of_ble_eq_true rfl) dX10_beer_4 ?_
  refine j_if_ne C (tgt := 12) dX10_beer_7 (by decide) h (fun c3 h => ?_) (fun c3 h => ?_)
  · refine j_iconst C dX10_beer_10 (v := (-1 : Int32)) (by decide) ?_
    exact j_iretR C (r := r) (rtf := fun r => (some (.int r.1))) (wff := fun r => (oX10_beer D h_t h_t_text h_t_told h_t_touches h_t_has h_t_old h_t_beside h_t_slot h_t_row h_t_free h_t_worth h_t_fore h_t_back h_t_got t_length t_at t_stones t_kept t_done t_rows t_fewest t_told_ t_touches_ t_has_ t_beside_ r)) E h rfl rfl dX10_beer_11
  · refine j_aload_n C dX10_beer_12 rfl 0 rfl ?_
    refine j_iconst C dX10_beer_13 (v := (-1 : Int32)) (by decide) ?_
    obtain ⟨r4, q5, h⟩ := jl_bind h
    refine j_cV0 C (mX10_plays (jlaunch X) D F h_t h_t_text h_t_told h_t_touches h_t_has h_t_old h_t_beside h_t_slot h_t_row h_t_free h_t_worth h_t_fore h_t_back h_t_got t_length t_at t_stones t_kept t_done t_rows t_frees t_fewest t_told_ t_touches_ t_has_ t_beside_ t_slot_ t_free_ t_worth_ ((-1 : Int32)) r4 q5) bmX10_180 biX10_plays bsX10_plays bzX10 bcX10_plays rfl hX10_plays (rest := []) rfl (jroom_of rfl) 0 (ci := 8) rfl rfl rfl [0, 1, 2, 3, 4, 5, 6, 7] [] [0, 1, 2, 3, 4, 5, 6, 7] (wr := []) (ws2 := [(h_t, .inr (8, [.int t_length, .ref h_t_text, .int t_at, .ref h_t_told, .ref h_t_touches, .ref h_t_has, .ref h_t_old, .ref h_t_beside, .int t_stones, .ref h_t_slot, .int t_kept, .int t_done, .int t_rows, .ref h_t_row, .ref h_t_free, .int r4.1, .ref h_t_worth, .ref h_t_fore, .ref h_t_back, .int t_fewest, .ref h_t_got])), (h_t_told, jI D 8 t_told_), (h_t_touches, jZ D 32 t_touches_), (h_t_has, jI D 4 t_has_), (h_t_beside, jI D 9 t_beside_), (h_t_slot, jI D 240 r4.2.1), (h_t_free, jI D 9 r4.2.2.1), (h_t_worth, jB D 262144 r4.2.2.2)]) rfl rfl rfl rfl rfl (Nat.le_of_ble_eq_true rfl) dX10_beer_14 ?_
    refine j_iload_n C dX10_beer_17 rfl 1 rfl ?_
    refine j_if_ne C (tgt := 30) dX10_beer_18 (by decide) h (fun c6 h => ?_) (fun c6 h => ?_)
    · refine j_aload_n C dX10_beer_21 rfl 0 rfl ?_
      refine j_get C ibX10 (ci := 8) 0 rfl rfl 16 (by decide) bfX10_40 (v := .ref h_t_worth) rfl dX10_beer_22 ?_
      refine j_iconst C dX10_beer_25 (v := (0 : Int32)) (by decide) ?_
      refine j_bald C 7 rfl (by unfold vp_in; decide) dX10_beer_26 ?_
      refine j_goto C dX10_beer_27 (tgt := 34) (by decide) ?_
      exact j_iretR C (r := r) (rtf := fun r => (some (.int r.1))) (wff := fun r => (oX10_beer D h_t h_t_text h_t_told h_t_touches h_t_has h_t_old h_t_beside h_t_slot h_t_row h_t_free h_t_worth h_t_fore h_t_back h_t_got t_length t_at t_stones t_kept t_done t_rows t_fewest t_told_ t_touches_ t_has_ t_beside_ r)) E h rfl rfl dX10_beer_34
    · refine j_aload_n C dX10_beer_30 rfl 0 rfl ?_
      obtain ⟨r7, q8, h⟩ := jl_bind h
      refine j_cV1 C (mX10_wins (jlaunch X) D F h_t h_t_text h_t_told h_t_touches h_t_has h_t_old h_t_beside h_t_slot h_t_row h_t_free h_t_worth h_t_fore h_t_back h_t_got t_length t_at t_stones t_kept t_done t_rows r4.1 t_fewest t_told_ t_touches_ t_has_ t_beside_ r4.2.1 r4.2.2.1 r4.2.2.2 r7 q8) bmX10_184 biX10_wins bsX10_wins bzX10 bcX10_wins rfl hX10_wins (rest := []) rfl (jroom_of rfl) 0 (ci := 8) rfl rfl rfl [0, 1, 2, 3, 4, 5, 6, 7] [] [0, 1, 2, 3, 4, 5, 6, 7] (wr := []) (ws2 := [(h_t, .inr (8, [.int t_length, .ref h_t_text, .int t_at, .ref h_t_told, .ref h_t_touches, .ref h_t_has, .ref h_t_old, .ref h_t_beside, .int t_stones, .ref h_t_slot, .int t_kept, .int t_done, .int t_rows, .ref h_t_row, .ref h_t_free, .int r4.1, .ref h_t_worth, .ref h_t_fore, .ref h_t_back, .int t_fewest, .ref h_t_got])), (h_t_told, jI D 8 t_told_), (h_t_touches, jZ D 32 t_touches_), (h_t_has, jI D 4 t_has_), (h_t_beside, jI D 9 t_beside_), (h_t_slot, jI D 240 r7.2), (h_t_free, jI D 9 r4.2.2.1), (h_t_worth, jB D 262144 r4.2.2.2)]) rfl rfl rfl rfl rfl (Nat.le_of_ble_eq_true rfl) dX10_beer_31 ?_
      exact j_iretR C (r := r) (rtf := fun r => (some (.int r.1))) (wff := fun r => (oX10_beer D h_t h_t_text h_t_told h_t_touches h_t_has h_t_old h_t_beside h_t_slot h_t_row h_t_free h_t_worth h_t_fore h_t_back h_t_got t_length t_at t_stones t_kept t_done t_rows t_fewest t_told_ t_touches_ t_has_ t_beside_ r)) E h rfl rfl dX10_beer_34
theorem dX10_white_0 : decode cX10_white 0 = .ok (.iload_n 1, 1) := by decide +kernel
theorem dX10_white_1 : decode cX10_white 1 = .ok (.i2l, 1) := by decide +kernel
theorem dX10_white_2 : decode cX10_white 2 = .ok (.lconst 0, 1) := by decide +kernel
theorem dX10_white_3 : decode cX10_white 3 = .ok (.lconst 1, 1) := by decide +kernel
theorem dX10_white_4 : decode cX10_white 4 = .ok (.invokestatic 60, 3) := by decide +kernel
theorem dX10_white_7 : decode cX10_white 7 = .ok (.ifCond .eq 13, 3) := by decide +kernel
theorem dX10_white_10 : decode cX10_white 10 = .ok (.iload_n 2, 1) := by decide +kernel
theorem dX10_white_11 : decode cX10_white 11 = .ok (.i2l, 1) := by decide +kernel
theorem dX10_white_12 : decode cX10_white 12 = .ok (.lconst 0, 1) := by decide +kernel
theorem dX10_white_13 : decode cX10_white 13 = .ok (.lconst 1, 1) := by decide +kernel
theorem dX10_white_14 : decode cX10_white 14 = .ok (.invokestatic 60, 3) := by decide +kernel
theorem dX10_white_17 : decode cX10_white 17 = .ok (.ifCond .ne 5, 3) := by decide +kernel
theorem dX10_white_20 : decode cX10_white 20 = .ok (.iconst (-1), 1) := by decide +kernel
theorem dX10_white_21 : decode cX10_white 21 = .ok (.ireturn, 1) := by decide +kernel
theorem dX10_white_22 : decode cX10_white 22 = .ok (.aload_n 0, 1) := by decide +kernel
theorem dX10_white_23 : decode cX10_white 23 = .ok (.iload_n 1, 1) := by decide +kernel
theorem dX10_white_24 : decode cX10_white 24 = .ok (.invokevirtual 180, 3) := by decide +kernel
theorem dX10_white_27 : decode cX10_white 27 = .ok (.iload_n 2, 1) := by decide +kernel
theorem dX10_white_28 : decode cX10_white 28 = .ok (.iconst 1, 1) := by decide +kernel
theorem dX10_white_29 : decode cX10_white 29 = .ok (.if_icmp .ne 10, 3) := by decide +kernel
theorem dX10_white_32 : decode cX10_white 32 = .ok (.aload_n 0, 1) := by decide +kernel
theorem dX10_white_33 : decode cX10_white 33 = .ok (.invokevirtual 184, 3) := by decide +kernel
theorem dX10_white_36 : decode cX10_white 36 = .ok (.goto 31, 3) := by decide +kernel
theorem dX10_white_39 : decode cX10_white 39 = .ok (.aload_n 0, 1) := by decide +kernel
theorem dX10_white_40 : decode cX10_white 40 = .ok (.getfield 30, 3) := by decide +kernel
theorem dX10_white_43 : decode cX10_white 43 = .ok (.bipush 19, 2) := by decide +kernel
theorem dX10_white_45 : decode cX10_white 45 = .ok (.iaload, 1) := by decide +kernel
theorem dX10_white_46 : decode cX10_white 46 = .ok (.iload_n 1, 1) := by decide +kernel
theorem dX10_white_47 : decode cX10_white 47 = .ok (.if_icmp .ne 12, 3) := by decide +kernel
theorem dX10_white_50 : decode cX10_white 50 = .ok (.aload_n 0, 1) := by decide +kernel
theorem dX10_white_51 : decode cX10_white 51 = .ok (.getfield 40, 3) := by decide +kernel
theorem dX10_white_54 : decode cX10_white 54 = .ok (.iconst 0, 1) := by decide +kernel
theorem dX10_white_55 : decode cX10_white 55 = .ok (.baload, 1) := by decide +kernel
theorem dX10_white_56 : decode cX10_white 56 = .ok (.goto 11, 3) := by decide +kernel
theorem dX10_white_59 : decode cX10_white 59 = .ok (.iconst 1, 1) := by decide +kernel
theorem dX10_white_60 : decode cX10_white 60 = .ok (.aload_n 0, 1) := by decide +kernel
theorem dX10_white_61 : decode cX10_white 61 = .ok (.getfield 40, 3) := by decide +kernel
theorem dX10_white_64 : decode cX10_white 64 = .ok (.iconst 0, 1) := by decide +kernel
theorem dX10_white_65 : decode cX10_white 65 = .ok (.baload, 1) := by decide +kernel
theorem dX10_white_66 : decode cX10_white 66 = .ok (.isub, 1) := by decide +kernel
theorem dX10_white_67 : decode cX10_white 67 = .ok (.ireturn, 1) := by decide +kernel
def fX10_white (F : Nat) (t_stones : Int32) (t_frees : Int32) (t_told_ : Nat → Int32) (t_touches_ : Nat → Int32) (t_has_ : Nat → Int32) (t_beside_ : Nat → Int32) (t_slot_ : Nat → Int32) (t_free_ : Nat → Int32) (t_worth_ : Nat → Int32) (p1 : Int32) (p2 : Int32) : Option (Int32 × Int32 × (Nat → Int32) × (Nat → Int32) × (Nat → Int32)) :=
((fX10_in p1.toInt64 ((0 : Int64)) ((1 : Int64))).bind fun r1 =>
(if r1 = 0 then
(some ((-1 : Int32), t_frees, t_slot_, t_free_, t_worth_))
else
((fX10_in p2.toInt64 ((0 : Int64)) ((1 : Int64))).bind fun r4 =>
(if r4 = 0 then
(some ((-1 : Int32), t_frees, t_slot_, t_free_, t_worth_))
else
((fX10_plays F t_stones t_frees t_told_ t_touches_ t_has_ t_beside_ t_slot_ t_free_ t_worth_ p1).bind fun r7 =>
(if p2 = ((1 : Int32)) then
((fX10_wins F t_stones r7.1 t_told_ t_touches_ t_has_ t_beside_ r7.2.1 r7.2.2.1 r7.2.2.2).bind fun r10 =>
(some (r10.1, r7.1, r10.2, r7.2.2.1, r7.2.2.2)))
else
(if (r7.2.1 ((19 : Int32)).toNatClampNeg) = p1 then
(some (r7.2.2.2 ((0 : Int32)).toNatClampNeg, r7.1, r7.2.1, r7.2.2.1, r7.2.2.2))
else
(some (((1 : Int32)) - (r7.2.2.2 ((0 : Int32)).toNatClampNeg), r7.1, r7.2.1, r7.2.2.1, r7.2.2.2)))))))))
def oX10_white (D : jv_D) (h_t : Nat) (h_t_text : Nat) (h_t_told : Nat) (h_t_touches : Nat) (h_t_has : Nat) (h_t_old : Nat) (h_t_beside : Nat) (h_t_slot : Nat) (h_t_row : Nat) (h_t_free : Nat) (h_t_worth : Nat) (h_t_fore : Nat) (h_t_back : Nat) (h_t_got : Nat) (t_length : Int32) (t_at : Int32) (t_stones : Int32) (t_kept : Int32) (t_done : Int32) (t_rows : Int32) (t_fewest : Int32) (t_told_ : Nat → Int32) (t_touches_ : Nat → Int32) (t_has_ : Nat → Int32) (t_beside_ : Nat → Int32) (r : Int32 × Int32 × (Nat → Int32) × (Nat → Int32) × (Nat → Int32)) : va_W := [(h_t, .inr (8, [.int t_length, .ref h_t_text, .int t_at, .ref h_t_told, .ref h_t_touches, .ref h_t_has, .ref h_t_old, .ref h_t_beside, .int t_stones, .ref h_t_slot, .int t_kept, .int t_done, .int t_rows, .ref h_t_row, .ref h_t_free, .int r.2.1, .ref h_t_worth, .ref h_t_fore, .ref h_t_back, .int t_fewest, .ref h_t_got])), (h_t_told, jI D 8 t_told_), (h_t_touches, jZ D 32 t_touches_), (h_t_has, jI D 4 t_has_), (h_t_beside, jI D 9 t_beside_), (h_t_slot, jI D 240 r.2.2.1), (h_t_free, jI D 9 r.2.2.2.1), (h_t_worth, jB D 262144 r.2.2.2.2)]
set_option maxHeartbeats 40000000 in
set_option maxRecDepth 100000 in
theorem mX10_white (l : Launch) (D : jv_D) (F : Nat) (h_t : Nat) (h_t_text : Nat) (h_t_told : Nat) (h_t_touches : Nat) (h_t_has : Nat) (h_t_old : Nat) (h_t_beside : Nat) (h_t_slot : Nat) (h_t_row : Nat) (h_t_free : Nat) (h_t_worth : Nat) (h_t_fore : Nat) (h_t_back : Nat) (h_t_got : Nat) (t_length : Int32) (t_at : Int32) (t_stones : Int32) (t_kept : Int32) (t_done : Int32) (t_rows : Int32) (t_frees : Int32) (t_fewest : Int32) (t_told_ : Nat → Int32) (t_touches_ : Nat → Int32) (t_has_ : Nat → Int32) (t_beside_ : Nat → Int32) (t_slot_ : Nat → Int32) (t_free_ : Nat → Int32) (t_worth_ : Nat → Int32) (p1 : Int32) (p2 : Int32) (r : Int32 × Int32 × (Nat → Int32) × (Nat → Int32) × (Nat → Int32)) (h : fX10_white F t_stones t_frees t_told_ t_touches_ t_has_ t_beside_ t_slot_ t_free_ t_worth_ p1 p2 = some r) : MM l yX10_white (jW yX10_white cX10_white 3 (some .int)) ({ frames := 3, cells := 0, slots := 0, locals := 79 }) D [.ref h_t, .int p1, .int p2] [(h_t, .inr (8, [.int t_length, .ref h_t_text, .int t_at, .ref h_t_told, .ref h_t_touches, .ref h_t_has, .ref h_t_old, .ref h_t_beside, .int t_stones, .ref h_t_slot, .int t_kept, .int t_done, .int t_rows, .ref h_t_row, .ref h_t_free, .int t_frees, .ref h_t_worth, .ref h_t_fore, .ref h_t_back, .int t_fewest, .ref h_t_got])), (h_t_told, jI D 8 t_told_), (h_t_touches, jZ D 32 t_touches_), (h_t_has, jI D 4 t_has_), (h_t_beside, jI D 9 t_beside_), (h_t_slot, jI D 240 t_slot_), (h_t_free, jI D 9 t_free_), (h_t_worth, jB D 262144 t_worth_)] (some (.int r.1)) (oX10_white D h_t h_t_text h_t_told h_t_touches h_t_has h_t_old h_t_beside h_t_slot h_t_row h_t_free h_t_worth h_t_fore h_t_back h_t_got t_length t_at t_stones t_kept t_done t_rows t_fewest t_told_ t_touches_ t_has_ t_beside_ r) := by
  refine mn_of hpX10_white (Nat.le_of_ble_eq_true rfl) ?_
  intro X hXl C E0 hN
  subst hXl
  replace C : JC D X 3 RX10 cX10_white ({ frames := 3, cells := 0, slots := 0, locals := 79 }) := C
  have E : JE D X 0 0 (some .int) (fun _ : Unit => (some (.int r.1))) (fun _ : Unit => (oX10_white D h_t h_t_text h_t_told h_t_touches h_t_has h_t_old h_t_beside h_t_slot h_t_row h_t_free h_t_worth h_t_fore h_t_back h_t_got t_length t_at t_stones t_kept t_done t_rows t_fewest t_told_ t_touches_ t_has_ t_beside_ r)) := E0 0 0 rfl rfl
  clear E0 hN
  show JJ D X 3 0 0 0 [(0, .ref h_t), (1, .int p1), (2, .int p2)] [] [(h_t, .inr (8, [.int t_length, .ref h_t_text, .int t_at, .ref h_t_told, .ref h_t_touches, .ref h_t_has, .ref h_t_old, .ref h_t_beside, .int t_stones, .ref h_t_slot, .int t_kept, .int t_done, .int t_rows, .ref h_t_row, .ref h_t_free, .int t_frees, .ref h_t_worth, .ref h_t_fore, .ref h_t_back, .int t_fewest, .ref h_t_got])), (h_t_told, jI D 8 t_told_), (h_t_touches, jZ D 32 t_touches_), (h_t_has, jI D 4 t_has_), (h_t_beside, jI D 9 t_beside_), (h_t_slot, jI D 240 t_slot_), (h_t_free, jI D 9 t_free_), (h_t_worth, jB D 262144 t_worth_)]
  unfold fX10_white at h
  refine j_iload_n C dX10_white_0 rfl 1 rfl ?_
  refine j_i2l C dX10_white_1 ?_
  refine j_lconst C dX10_white_2 (v := (0 : Int64)) (by decide) ?_
  refine j_lconst C dX10_white_3 (v := (1 : Int64)) (by decide) ?_
  obtain ⟨r1, q2, h⟩ := jl_bind h
  refine j_cS1 C (mX10_in (jlaunch X) D p1.toInt64 ((0 : Int64)) ((1 : Int64)) r1 q2) bmX10_60 btX10_in bzX10 bcX10_in hX10_in (rest := []) rfl (jroom_of rfl) [] [0, 1, 2, 3, 4, 5, 6, 7] [0, 1, 2, 3, 4, 5, 6, 7] (wr := [(h_t, .inr (8, [.int t_length, .ref h_t_text, .int t_at, .ref h_t_told, .ref h_t_touches, .ref h_t_has, .ref h_t_old, .ref h_t_beside, .int t_stones, .ref h_t_slot, .int t_kept, .int t_done, .int t_rows, .ref h_t_row, .ref h_t_free, .int t_frees, .ref h_t_worth, .ref h_t_fore, .ref h_t_back, .int t_fewest, .ref h_t_got])), (h_t_told, jI D 8 t_told_), (h_t_touches, jZ D 32 t_touches_), (h_t_has, jI D 4 t_has_), (h_t_beside, jI D 9 t_beside_), (h_t_slot, jI D 240 t_slot_), (h_t_free, jI D 9 t_free_), (h_t_worth, jB D 262144 t_worth_)]) (ws2 := [(h_t, .inr (8, [.int t_length, .ref h_t_text, .int t_at, .ref h_t_told, .ref h_t_touches, .ref h_t_has, .ref h_t_old, .ref h_t_beside, .int t_stones, .ref h_t_slot, .int t_kept, .int t_done, .int t_rows, .ref h_t_row, .ref h_t_free, .int t_frees, .ref h_t_worth, .ref h_t_fore, .ref h_t_back, .int t_fewest, .ref h_t_got])), (h_t_told, jI D 8 t_told_), (h_t_touches, jZ D 32 t_touches_), (h_t_has, jI D 4 t_has_), (h_t_beside, jI D 9 t_beside_), (h_t_slot, jI D 240 t_slot_), (h_t_free, jI D 9 t_free_), (h_t_worth, jB D 262144 t_worth_)]) rfl rfl rfl rfl rfl (Nat.le_of_ble_eq_true rfl) dX10_white_4 ?_
  refine j_if_eq C (tgt := 20) dX10_white_7 (by decide) h (fun c3 h => ?_) (fun c3 h => ?_)
  · refine j_iconst C dX10_white_20 (v := (-1 : Int32)) (by decide) ?_
    exact j_iretR C (r := r) (rtf := fun r => (some (.int r.1))) (wff := fun r => (oX10_white D h_t h_t_text h_t_told h_t_touches h_t_has h_t_old h_t_beside h_t_slot h_t_row h_t_free h_t_worth h_t_fore h_t_back h_t_got t_length t_at t_stones t_kept t_done t_rows t_fewest t_told_ t_touches_ t_has_ t_beside_ r)) E h rfl rfl dX10_white_21
  · refine j_iload_n C dX10_white_10 rfl 2 rfl ?_
    refine j_i2l C dX10_white_11 ?_
    refine j_lconst C dX10_white_12 (v := (0 : Int64)) (by decide) ?_
    refine j_lconst C dX10_white_13 (v := (1 : Int64)) (by decide) ?_
    obtain ⟨r4, q5, h⟩ := jl_bind h
    refine j_cS1 C (mX10_in (jlaunch X) D p2.toInt64 ((0 : Int64)) ((1 : Int64)) r4 q5) bmX10_60 btX10_in bzX10 bcX10_in hX10_in (rest := []) rfl (jroom_of rfl) [] [0, 1, 2, 3, 4, 5, 6, 7] [0, 1, 2, 3, 4, 5, 6, 7] (wr := [(h_t, .inr (8, [.int t_length, .ref h_t_text, .int t_at, .ref h_t_told, .ref h_t_touches, .ref h_t_has, .ref h_t_old, .ref h_t_beside, .int t_stones, .ref h_t_slot, .int t_kept, .int t_done, .int t_rows, .ref h_t_row, .ref h_t_free, .int t_frees, .ref h_t_worth, .ref h_t_fore, .ref h_t_back, .int t_fewest, .ref h_t_got])), (h_t_told, jI D 8 t_told_), (h_t_touches, jZ D 32 t_touches_), (h_t_has, jI D 4 t_has_), (h_t_beside, jI D 9 t_beside_), (h_t_slot, jI D 240 t_slot_), (h_t_free, jI D 9 t_free_), (h_t_worth, jB D 262144 t_worth_)]) (ws2 := [(h_t, .inr (8, [.int t_length, .ref h_t_text, .int t_at, .ref h_t_told, .ref h_t_touches, .ref h_t_has, .ref h_t_old, .ref h_t_beside, .int t_stones, .ref h_t_slot, .int t_kept, .int t_done, .int t_rows, .ref h_t_row, .ref h_t_free, .int t_frees, .ref h_t_worth, .ref h_t_fore, .ref h_t_back, .int t_fewest, .ref h_t_got])), (h_t_told, jI D 8 t_told_), (h_t_touches, jZ D 32 t_touches_), (h_t_has, jI D 4 t_has_), (h_t_beside, jI D 9 t_beside_), (h_t_slot, jI D 240 t_slot_), (h_t_free, jI D 9 t_free_), (h_t_worth, jB D 262144 t_worth_)]) rfl rfl rfl rfl rfl (Nat.le_of_ble_eq_true rfl) dX10_white_14 ?_
    refine j_if_ne C (tgt := 22) dX10_white_17 (by decide) h (fun c6 h => ?_) (fun c6 h => ?_)
    · refine j_iconst C dX10_white_20 (v := (-1 : Int32)) (by decide) ?_
      exact j_iretR C (r := r) (rtf := fun r => (some (.int r.1))) (wff := fun r => (oX10_white D h_t h_t_text h_t_told h_t_touches h_t_has h_t_old h_t_beside h_t_slot h_t_row h_t_free h_t_worth h_t_fore h_t_back h_t_got t_length t_at t_stones t_kept t_done t_rows t_fewest t_told_ t_touches_ t_has_ t_beside_ r)) E h rfl rfl dX10_white_21
    · refine j_aload_n C dX10_white_22 rfl 0 rfl ?_
      refine j_iload_n C dX10_white_23 rfl 1 rfl ?_
      obtain ⟨r7, q8, h⟩ := jl_bind h
      refine j_cV0 C (mX10_plays (jlaunch X) D F h_t h_t_text h_t_told h_t_touches h_t_has h_t_old h_t_beside h_t_slot h_t_row h_t_free h_t_worth h_t_fore h_t_back h_t_got t_length t_at t_stones t_kept t_done t_rows t_frees t_fewest t_told_ t_touches_ t_has_ t_beside_ t_slot_ t_free_ t_worth_ p1 r7 q8) bmX10_180 biX10_plays bsX10_plays bzX10 bcX10_plays rfl hX10_plays (rest := []) rfl (jroom_of rfl) 0 (ci := 8) rfl rfl rfl [0, 1, 2, 3, 4, 5, 6, 7] [] [0, 1, 2, 3, 4, 5, 6, 7] (wr := []) (ws2 := [(h_t, .inr (8, [.int t_length, .ref h_t_text, .int t_at, .ref h_t_told, .ref h_t_touches, .ref h_t_has, .ref h_t_old, .ref h_t_beside, .int t_stones, .ref h_t_slot, .int t_kept, .int t_done, .int t_rows, .ref h_t_row, .ref h_t_free, .int r7.1, .ref h_t_worth, .ref h_t_fore, .ref h_t_back, .int t_fewest, .ref h_t_got])), (h_t_told, jI D 8 t_told_), (h_t_touches, jZ D 32 t_touches_), (h_t_has, jI D 4 t_has_), (h_t_beside, jI D 9 t_beside_), (h_t_slot, jI D 240 r7.2.1), (h_t_free, jI D 9 r7.2.2.1), (h_t_worth, jB D 262144 r7.2.2.2)]) rfl rfl rfl rfl rfl (Nat.le_of_ble_eq_true rfl) dX10_white_24 ?_
      refine j_iload_n C dX10_white_27 rfl 2 rfl ?_
      refine j_iconst C dX10_white_28 (v := (1 : Int32)) (by decide) ?_
      refine j_icmp_ne C (tgt := 39) dX10_white_29 (by decide) h (fun c9 h => ?_) (fun c9 h => ?_)
      · refine j_aload_n C dX10_white_32 rfl 0 rfl ?_
        obtain ⟨r10, q11, h⟩ := jl_bind h
        refine j_cV1 C (mX10_wins (jlaunch X) D F h_t h_t_text h_t_told h_t_touches h_t_has h_t_old h_t_beside h_t_slot h_t_row h_t_free h_t_worth h_t_fore h_t_back h_t_got t_length t_at t_stones t_kept t_done t_rows r7.1 t_fewest t_told_ t_touches_ t_has_ t_beside_ r7.2.1 r7.2.2.1 r7.2.2.2 r10 q11) bmX10_184 biX10_wins bsX10_wins bzX10 bcX10_wins rfl hX10_wins (rest := []) rfl (jroom_of rfl) 0 (ci := 8) rfl rfl rfl [0, 1, 2, 3, 4, 5, 6, 7] [] [0, 1, 2, 3, 4, 5, 6, 7] (wr := []) (ws2 := [(h_t, .inr (8, [.int t_length, .ref h_t_text, .int t_at, .ref h_t_told, .ref h_t_touches, .ref h_t_has, .ref h_t_old, .ref h_t_beside, .int t_stones, .ref h_t_slot, .int t_kept, .int t_done, .int t_rows, .ref h_t_row, .ref h_t_free, .int r7.1, .ref h_t_worth, .ref h_t_fore, .ref h_t_back, .int t_fewest, .ref h_t_got])), (h_t_told, jI D 8 t_told_), (h_t_touches, jZ D 32 t_touches_), (h_t_has, jI D 4 t_has_), (h_t_beside, jI D 9 t_beside_), (h_t_slot, jI D 240 r10.2), (h_t_free, jI D 9 r7.2.2.1), (h_t_worth, jB D 262144 r7.2.2.2)]) rfl rfl rfl rfl rfl (Nat.le_of_ble_eq_true rfl) dX10_white_33 ?_
        refine j_goto C dX10_white_36 (tgt := 67) (by decide) ?_
        exact j_iretR C (r := r) (rtf := fun r => (some (.int r.1))) (wff := fun r => (oX10_white D h_t h_t_text h_t_told h_t_touches h_t_has h_t_old h_t_beside h_t_slot h_t_row h_t_free h_t_worth h_t_fore h_t_back h_t_got t_length t_at t_stones t_kept t_done t_rows t_fewest t_told_ t_touches_ t_has_ t_beside_ r)) E h rfl rfl dX10_white_67
      · refine j_aload_n C dX10_white_39 rfl 0 rfl ?_
        refine j_get C ibX10 (ci := 8) 0 rfl rfl 9 (by decide) bfX10_30 (v := .ref h_t_slot) rfl dX10_white_40 ?_
        refine j_bipush C dX10_white_43 (v := (19 : Int32)) (by decide) ?_
        refine j_iald C 5 rfl (by unfold vp_in; decide) dX10_white_45 ?_
        refine j_iload_n C dX10_white_46 rfl 1 rfl ?_
        refine j_icmp_ne C (tgt := 59) dX10_white_47 (by decide) h (fun c12 h => ?_) (fun c12 h => ?_)
        · refine j_aload_n C dX10_white_50 rfl 0 rfl ?_
          refine j_get C ibX10 (ci := 8) 0 rfl rfl 16 (by decide) bfX10_40 (v := .ref h_t_worth) rfl dX10_white_51 ?_
          refine j_iconst C dX10_white_54 (v := (0 : Int32)) (by decide) ?_
          refine j_bald C 7 rfl (by unfold vp_in; decide) dX10_white_55 ?_
          refine j_goto C dX10_white_56 (tgt := 67) (by decide) ?_
          exact j_iretR C (r := r) (rtf := fun r => (some (.int r.1))) (wff := fun r => (oX10_white D h_t h_t_text h_t_told h_t_touches h_t_has h_t_old h_t_beside h_t_slot h_t_row h_t_free h_t_worth h_t_fore h_t_back h_t_got t_length t_at t_stones t_kept t_done t_rows t_fewest t_told_ t_touches_ t_has_ t_beside_ r)) E h rfl rfl dX10_white_67
        · refine j_iconst C dX10_white_59 (v := (1 : Int32)) (by decide) ?_
          refine j_aload_n C dX10_white_60 rfl 0 rfl ?_
          refine j_get C ibX10 (ci := 8) 0 rfl rfl 16 (by decide) bfX10_40 (v := .ref h_t_worth) rfl dX10_white_61 ?_
          refine j_iconst C dX10_white_64 (v := (0 : Int32)) (by decide) ?_
          refine j_bald C 7 rfl (by unfold vp_in; decide) dX10_white_65 ?_
          refine j_isub C dX10_white_66 ?_
          exact j_iretR C (r := r) (rtf := fun r => (some (.int r.1))) (wff := fun r => (oX10_white D h_t h_t_text h_t_told h_t_touches h_t_has h_t_old h_t_beside h_t_slot h_t_row h_t_free h_t_worth h_t_fore h_t_back h_t_got t_length t_at t_stones t_kept t_done t_rows t_fewest t_told_ t_touches_ t_has_ t_beside_ r)) E h rfl rfl dX10_white_67
theorem dX10_isBy_0 : decode cX10_isBy 0 = .ok (.aload_n 0, 1) := by decide +kernel
theorem dX10_isBy_1 : decode cX10_isBy 1 = .ok (.getfield 21, 3) := by decide +kernel
theorem dX10_isBy_4 : decode cX10_isBy 4 = .ok (.iload_n 2, 1) := by decide +kernel
theorem dX10_isBy_5 : decode cX10_isBy 5 = .ok (.iconst 2, 1) := by decide +kernel
theorem dX10_isBy_6 : decode cX10_isBy 6 = .ok (.irem, 1) := by decide +kernel
theorem dX10_isBy_7 : decode cX10_isBy 7 = .ok (.iaload, 1) := by decide +kernel
theorem dX10_isBy_8 : decode cX10_isBy 8 = .ok (.aload_n 0, 1) := by decide +kernel
theorem dX10_isBy_9 : decode cX10_isBy 9 = .ok (.getfield 30, 3) := by decide +kernel
theorem dX10_isBy_12 : decode cX10_isBy 12 = .ok (.iload_n 1, 1) := by decide +kernel
theorem dX10_isBy_13 : decode cX10_isBy 13 = .ok (.iaload, 1) := by decide +kernel
theorem dX10_isBy_14 : decode cX10_isBy 14 = .ok (.iconst 1, 1) := by decide +kernel
theorem dX10_isBy_15 : decode cX10_isBy 15 = .ok (.isub, 1) := by decide +kernel
theorem dX10_isBy_16 : decode cX10_isBy 16 = .ok (.ishr, 1) := by decide +kernel
theorem dX10_isBy_17 : decode cX10_isBy 17 = .ok (.iconst 1, 1) := by decide +kernel
theorem dX10_isBy_18 : decode cX10_isBy 18 = .ok (.iand, 1) := by decide +kernel
theorem dX10_isBy_19 : decode cX10_isBy 19 = .ok (.iconst 1, 1) := by decide +kernel
theorem dX10_isBy_20 : decode cX10_isBy 20 = .ok (.if_icmp .ne 7, 3) := by decide +kernel
theorem dX10_isBy_23 : decode cX10_isBy 23 = .ok (.iconst 1, 1) := by decide +kernel
theorem dX10_isBy_24 : decode cX10_isBy 24 = .ok (.goto 4, 3) := by decide +kernel
theorem dX10_isBy_27 : decode cX10_isBy 27 = .ok (.iconst 0, 1) := by decide +kernel
theorem dX10_isBy_28 : decode cX10_isBy 28 = .ok (.ireturn, 1) := by decide +kernel
def fX10_isBy (t_has_ : Nat → Int32) (t_slot_ : Nat → Int32) (p1 : Int32) (p2 : Int32) : Option (Int32) :=
(if (p2 - p2 / ((2 : Int32)) * ((2 : Int32))) < 0 ∨ 4 ≤ (p2 - p2 / ((2 : Int32)) * ((2 : Int32))).toNatClampNeg then none else
(if p1 < 0 ∨ 240 ≤ p1.toNatClampNeg then none else
(if (((t_has_ (p2 - p2 / ((2 : Int32)) * ((2 : Int32))).toNatClampNeg) >>> (((t_slot_ p1.toNatClampNeg) - ((1 : Int32))) &&& 31)) &&& ((1 : Int32))) = ((1 : Int32)) then
(some ((1 : Int32)))
else
(some ((0 : Int32))))))
def oX10_isBy (D : jv_D) (h_t : Nat) (h_t_text : Nat) (h_t_told : Nat) (h_t_touches : Nat) (h_t_has : Nat) (h_t_old : Nat) (h_t_beside : Nat) (h_t_slot : Nat) (h_t_row : Nat) (h_t_free : Nat) (h_t_worth : Nat) (h_t_fore : Nat) (h_t_back : Nat) (h_t_got : Nat) (t_length : Int32) (t_at : Int32) (t_stones : Int32) (t_kept : Int32) (t_done : Int32) (t_rows : Int32) (t_frees : Int32) (t_fewest : Int32) (t_has_ : Nat → Int32) (t_slot_ : Nat → Int32) (r : Int32) : va_W := [(h_t, .inr (8, [.int t_length, .ref h_t_text, .int t_at, .ref h_t_told, .ref h_t_touches, .ref h_t_has, .ref h_t_old, .ref h_t_beside, .int t_stones, .ref h_t_slot, .int t_kept, .int t_done, .int t_rows, .ref h_t_row, .ref h_t_free, .int t_frees, .ref h_t_worth, .ref h_t_fore, .ref h_t_back, .int t_fewest, .ref h_t_got])), (h_t_has, jI D 4 t_has_), (h_t_slot, jI D 240 t_slot_)]
set_option maxHeartbeats 40000000 in
set_option maxRecDepth 100000 in
theorem mX10_isBy (l : Launch) (D : jv_D) (h_t : Nat) (h_t_text : Nat) (h_t_told : Nat) (h_t_touches : Nat) (h_t_has : Nat) (h_t_old : Nat) (h_t_beside : Nat) (h_t_slot : Nat) (h_t_row : Nat) (h_t_free : Nat) (h_t_worth : Nat) (h_t_fore : Nat) (h_t_back : Nat) (h_t_got : Nat) (t_length : Int32) (t_at : Int32) (t_stones : Int32) (t_kept : Int32) (t_done : Int32) (t_rows : Int32) (t_frees : Int32) (t_fewest : Int32) (t_has_ : Nat → Int32) (t_slot_ : Nat → Int32) (p1 : Int32) (p2 : Int32) (r : Int32) (h : fX10_isBy t_has_ t_slot_ p1 p2 = some r) : MM l yX10_isBy (jW yX10_isBy cX10_isBy 3 (some .boolean)) ({ frames := 0, cells := 0, slots := 0, locals := 0 }) D [.ref h_t, .int p1, .int p2] [(h_t, .inr (8, [.int t_length, .ref h_t_text, .int t_at, .ref h_t_told, .ref h_t_touches, .ref h_t_has, .ref h_t_old, .ref h_t_beside, .int t_stones, .ref h_t_slot, .int t_kept, .int t_done, .int t_rows, .ref h_t_row, .ref h_t_free, .int t_frees, .ref h_t_worth, .ref h_t_fore, .ref h_t_back, .int t_fewest, .ref h_t_got])), (h_t_has, jI D 4 t_has_), (h_t_slot, jI D 240 t_slot_)] (some (.int r)) (oX10_isBy D h_t h_t_text h_t_told h_t_touches h_t_has h_t_old h_t_beside h_t_slot h_t_row h_t_free h_t_worth h_t_fore h_t_back h_t_got t_length t_at t_stones t_kept t_done t_rows t_frees t_fewest t_has_ t_slot_ r) := by
  refine mn_of hpX10_isBy (Nat.le_of_ble_eq_true rfl) ?_
  intro X hXl C E0 hN
  subst hXl
  replace C : JC D X 3 RX10 cX10_isBy ({ frames := 0, cells := 0, slots := 0, locals := 0 }) := C
  have E : JE D X 0 0 (some .boolean) (fun _ : Unit => (some (.int r))) (fun _ : Unit => (oX10_isBy D h_t h_t_text h_t_told h_t_touches h_t_has h_t_old h_t_beside h_t_slot h_t_row h_t_free h_t_worth h_t_fore h_t_back h_t_got t_length t_at t_stones t_kept t_done t_rows t_frees t_fewest t_has_ t_slot_ r)) := E0 0 0 rfl rfl
  clear E0 hN
  show JJ D X 3 0 0 0 [(0, .ref h_t), (1, .int p1), (2, .int p2)] [] [(h_t, .inr (8, [.int t_length, .ref h_t_text, .int t_at, .ref h_t_told, .ref h_t_touches, .ref h_t_has, .ref h_t_old, .ref h_t_beside, .int t_stones, .ref h_t_slot, .int t_kept, .int t_done, .int t_rows, .ref h_t_row, .ref h_t_free, .int t_frees, .ref h_t_worth, .ref h_t_fore, .ref h_t_back, .int t_fewest, .ref h_t_got])), (h_t_has, jI D 4 t_has_), (h_t_slot, jI D 240 t_slot_)]
  unfold fX10_isBy at h
  refine j_aload_n C dX10_isBy_0 rfl 0 rfl ?_
  refine j_get C ibX10 (ci := 8) 0 rfl rfl 5 (by decide) bfX10_21 (v := .ref h_t_has) rfl dX10_isBy_1 ?_
  refine j_iload_n C dX10_isBy_4 rfl 2 rfl ?_
  refine j_iconst C dX10_isBy_5 (v := (2 : Int32)) (by decide) ?_
  refine j_irem C dX10_isBy_6 (by decide) ?_
  refine jl_inb h (fun b1 h => ?_)
  refine j_iald C 1 rfl b1 dX10_isBy_7 ?_
  refine j_aload_n C dX10_isBy_8 rfl 0 rfl ?_
  refine j_get C ibX10 (ci := 8) 0 rfl rfl 9 (by decide) bfX10_30 (v := .ref h_t_slot) rfl dX10_isBy_9 ?_
  refine j_iload_n C dX10_isBy_12 rfl 1 rfl ?_
  refine jl_inb h (fun b2 h => ?_)
  refine j_iald C 2 rfl b2 dX10_isBy_13 ?_
  refine j_iconst C dX10_isBy_14 (v := (1 : Int32)) (by decide) ?_
  refine j_isub C dX10_isBy_15 ?_
  refine j_ishr C dX10_isBy_16 ?_
  refine j_iconst C dX10_isBy_17 (v := (1 : Int32)) (by decide) ?_
  refine j_iand C dX10_isBy_18 ?_
  refine j_iconst C dX10_isBy_19 (v := (1 : Int32)) (by decide) ?_
  refine j_icmp_ne C (tgt := 27) dX10_isBy_20 (by decide) h (fun c3 h => ?_) (fun c3 h => ?_)
  · refine j_iconst C dX10_isBy_23 (v := (1 : Int32)) (by decide) ?_
    refine j_goto C dX10_isBy_24 (tgt := 28) (by decide) ?_
    exact j_zretR C (r := r) (rtf := fun r => (some (.int r))) (wff := fun r => (oX10_isBy D h_t h_t_text h_t_told h_t_touches h_t_has h_t_old h_t_beside h_t_slot h_t_row h_t_free h_t_worth h_t_fore h_t_back h_t_got t_length t_at t_stones t_kept t_done t_rows t_frees t_fewest t_has_ t_slot_ r)) E rfl h rfl rfl dX10_isBy_28
  · refine j_iconst C dX10_isBy_27 (v := (0 : Int32)) (by decide) ?_
    exact j_zretR C (r := r) (rtf := fun r => (some (.int r))) (wff := fun r => (oX10_isBy D h_t h_t_text h_t_told h_t_touches h_t_has h_t_old h_t_beside h_t_slot h_t_row h_t_free h_t_worth h_t_fore h_t_back h_t_got t_length t_at t_stones t_kept t_done t_rows t_frees t_fewest t_has_ t_slot_ r)) E rfl h rfl rfl dX10_isBy_28
theorem dX10_ordersOf_0 : decode cX10_ordersOf 0 = .ok (.aload_n 0, 1) := by decide +kernel
theorem dX10_ordersOf_1 : decode cX10_ordersOf 1 = .ok (.invokevirtual 168, 3) := by decide +kernel
theorem dX10_ordersOf_4 : decode cX10_ordersOf 4 = .ok (.istore_n 1, 1) := by decide +kernel
theorem dX10_ordersOf_5 : decode cX10_ordersOf 5 = .ok (.iconst 0, 1) := by decide +kernel
theorem dX10_ordersOf_6 : decode cX10_ordersOf 6 = .ok (.istore_n 2, 1) := by decide +kernel
theorem dX10_ordersOf_7 : decode cX10_ordersOf 7 = .ok (.iload_n 2, 1) := by decide +kernel
theorem dX10_ordersOf_8 : decode cX10_ordersOf 8 = .ok (.sipush 512, 3) := by decide +kernel
theorem dX10_ordersOf_11 : decode cX10_ordersOf 11 = .ok (.if_icmp .ge 108, 3) := by decide +kernel
theorem dX10_ordersOf_14 : decode cX10_ordersOf 14 = .ok (.aload_n 0, 1) := by decide +kernel
theorem dX10_ordersOf_15 : decode cX10_ordersOf 15 = .ok (.getfield 43, 3) := by decide +kernel
theorem dX10_ordersOf_18 : decode cX10_ordersOf 18 = .ok (.iload_n 2, 1) := by decide +kernel
theorem dX10_ordersOf_19 : decode cX10_ordersOf 19 = .ok (.iload_n 2, 1) := by decide +kernel
theorem dX10_ordersOf_20 : decode cX10_ordersOf 20 = .ok (.ifCond .ne 7, 3) := by decide +kernel
theorem dX10_ordersOf_23 : decode cX10_ordersOf 23 = .ok (.iconst 1, 1) := by decide +kernel
theorem dX10_ordersOf_24 : decode cX10_ordersOf 24 = .ok (.goto 4, 3) := by decide +kernel
theorem dX10_ordersOf_27 : decode cX10_ordersOf 27 = .ok (.iconst 0, 1) := by decide +kernel
theorem dX10_ordersOf_28 : decode cX10_ordersOf 28 = .ok (.iastore, 1) := by decide +kernel
theorem dX10_ordersOf_29 : decode cX10_ordersOf 29 = .ok (.iconst 0, 1) := by decide +kernel
theorem dX10_ordersOf_30 : decode cX10_ordersOf 30 = .ok (.istore_n 3, 1) := by decide +kernel
theorem dX10_ordersOf_31 : decode cX10_ordersOf 31 = .ok (.iload_n 3, 1) := by decide +kernel
theorem dX10_ordersOf_32 : decode cX10_ordersOf 32 = .ok (.aload_n 0, 1) := by decide +kernel
theorem dX10_ordersOf_33 : decode cX10_ordersOf 33 = .ok (.getfield 91, 3) := by decide +kernel
theorem dX10_ordersOf_36 : decode cX10_ordersOf 36 = .ok (.if_icmp .ge 77, 3) := by decide +kernel
theorem dX10_ordersOf_39 : decode cX10_ordersOf 39 = .ok (.iload_n 2, 1) := by decide +kernel
theorem dX10_ordersOf_40 : decode cX10_ordersOf 40 = .ok (.iload_n 1, 1) := by decide +kernel
theorem dX10_ordersOf_41 : decode cX10_ordersOf 41 = .ok (.iconst (-1), 1) := by decide +kernel
theorem dX10_ordersOf_42 : decode cX10_ordersOf 42 = .ok (.ixor, 1) := by decide +kernel
theorem dX10_ordersOf_43 : decode cX10_ordersOf 43 = .ok (.iand, 1) := by decide +kernel
theorem dX10_ordersOf_44 : decode cX10_ordersOf 44 = .ok (.ifCond .ne 69, 3) := by decide +kernel
theorem dX10_ordersOf_47 : decode cX10_ordersOf 47 = .ok (.iload_n 2, 1) := by decide +kernel
theorem dX10_ordersOf_48 : decode cX10_ordersOf 48 = .ok (.iload_n 3, 1) := by decide +kernel
theorem dX10_ordersOf_49 : decode cX10_ordersOf 49 = .ok (.ishr, 1) := by decide +kernel
theorem dX10_ordersOf_50 : decode cX10_ordersOf 50 = .ok (.iconst 1, 1) := by decide +kernel
theorem dX10_ordersOf_51 : decode cX10_ordersOf 51 = .ok (.iand, 1) := by decide +kernel
theorem dX10_ordersOf_52 : decode cX10_ordersOf 52 = .ok (.iconst 1, 1) := by decide +kernel
theorem dX10_ordersOf_53 : decode cX10_ordersOf 53 = .ok (.if_icmp .ne 21, 3) := by decide +kernel
theorem dX10_ordersOf_56 : decode cX10_ordersOf 56 = .ok (.aload_n 0, 1) := by decide +kernel
theorem dX10_ordersOf_57 : decode cX10_ordersOf 57 = .ok (.iload_n 3, 1) := by decide +kernel
theorem dX10_ordersOf_58 : decode cX10_ordersOf 58 = .ok (.iload_n 2, 1) := by decide +kernel
theorem dX10_ordersOf_59 : decode cX10_ordersOf 59 = .ok (.invokestatic 162, 3) := by decide +kernel
theorem dX10_ordersOf_62 : decode cX10_ordersOf 62 = .ok (.iconst 1, 1) := by decide +kernel
theorem dX10_ordersOf_63 : decode cX10_ordersOf 63 = .ok (.isub, 1) := by decide +kernel
theorem dX10_ordersOf_64 : decode cX10_ordersOf 64 = .ok (.invokevirtual 187, 3) := by decide +kernel
theorem dX10_ordersOf_67 : decode cX10_ordersOf 67 = .ok (.ifCond .eq 7, 3) := by decide +kernel
theorem dX10_ordersOf_70 : decode cX10_ordersOf 70 = .ok (.iconst 1, 1) := by decide +kernel
theorem dX10_ordersOf_71 : decode cX10_ordersOf 71 = .ok (.goto 4, 3) := by decide +kernel
theorem dX10_ordersOf_74 : decode cX10_ordersOf 74 = .ok (.iconst 0, 1) := by decide +kernel
theorem dX10_ordersOf_75 : decode cX10_ordersOf 75 = .ok (.istore 4, 2) := by decide +kernel
theorem dX10_ordersOf_77 : decode cX10_ordersOf 77 = .ok (.aload_n 0, 1) := by decide +kernel
theorem dX10_ordersOf_78 : decode cX10_ordersOf 78 = .ok (.getfield 43, 3) := by decide +kernel
theorem dX10_ordersOf_81 : decode cX10_ordersOf 81 = .ok (.iload_n 2, 1) := by decide +kernel
theorem dX10_ordersOf_82 : decode cX10_ordersOf 82 = .ok (.dup2, 1) := by decide +kernel
theorem dX10_ordersOf_83 : decode cX10_ordersOf 83 = .ok (.iaload, 1) := by decide +kernel
theorem dX10_ordersOf_84 : decode cX10_ordersOf 84 = .ok (.iload 4, 2) := by decide +kernel
theorem dX10_ordersOf_86 : decode cX10_ordersOf 86 = .ok (.ifCond .eq 18, 3) := by decide +kernel
theorem dX10_ordersOf_89 : decode cX10_ordersOf 89 = .ok (.aload_n 0, 1) := by decide +kernel
theorem dX10_ordersOf_90 : decode cX10_ordersOf 90 = .ok (.getfield 43, 3) := by decide +kernel
theorem dX10_ordersOf_93 : decode cX10_ordersOf 93 = .ok (.iload_n 2, 1) := by decide +kernel
theorem dX10_ordersOf_94 : decode cX10_ordersOf 94 = .ok (.iconst 1, 1) := by decide +kernel
theorem dX10_ordersOf_95 : decode cX10_ordersOf 95 = .ok (.iload_n 3, 1) := by decide +kernel
theorem dX10_ordersOf_96 : decode cX10_ordersOf 96 = .ok (.ishl, 1) := by decide +kernel
theorem dX10_ordersOf_97 : decode cX10_ordersOf 97 = .ok (.iconst (-1), 1) := by decide +kernel
theorem dX10_ordersOf_98 : decode cX10_ordersOf 98 = .ok (.ixor, 1) := by decide +kernel
theorem dX10_ordersOf_99 : decode cX10_ordersOf 99 = .ok (.iand, 1) := by decide +kernel
theorem dX10_ordersOf_100 : decode cX10_ordersOf 100 = .ok (.iaload, 1) := by decide +kernel
theorem dX10_ordersOf_101 : decode cX10_ordersOf 101 = .ok (.goto 4, 3) := by decide +kernel
theorem dX10_ordersOf_104 : decode cX10_ordersOf 104 = .ok (.iconst 0, 1) := by decide +kernel
theorem dX10_ordersOf_105 : decode cX10_ordersOf 105 = .ok (.iadd, 1) := by decide +kernel
theorem dX10_ordersOf_106 : decode cX10_ordersOf 106 = .ok (.iastore, 1) := by decide +kernel
theorem dX10_ordersOf_107 : decode cX10_ordersOf 107 = .ok (.iinc 3 1, 3) := by decide +kernel
theorem dX10_ordersOf_110 : decode cX10_ordersOf 110 = .ok (.goto (-79), 3) := by decide +kernel
theorem dX10_ordersOf_113 : decode cX10_ordersOf 113 = .ok (.iinc 2 1, 3) := by decide +kernel
theorem dX10_ordersOf_116 : decode cX10_ordersOf 116 = .ok (.goto (-109), 3) := by decide +kernel
theorem dX10_ordersOf_119 : decode cX10_ordersOf 119 = .ok (.sipush 511, 3) := by decide +kernel
theorem dX10_ordersOf_122 : decode cX10_ordersOf 122 = .ok (.istore_n 2, 1) := by decide +kernel
theorem dX10_ordersOf_123 : decode cX10_ordersOf 123 = .ok (.iload_n 2, 1) := by decide +kernel
theorem dX10_ordersOf_124 : decode cX10_ordersOf 124 = .ok (.ifCond .lt 108, 3) := by decide +kernel
theorem dX10_ordersOf_127 : decode cX10_ordersOf 127 = .ok (.aload_n 0, 1) := by decide +kernel
theorem dX10_ordersOf_128 : decode cX10_ordersOf 128 = .ok (.getfield 46, 3) := by decide +kernel
theorem dX10_ordersOf_131 : decode cX10_ordersOf 131 = .ok (.iload_n 2, 1) := by decide +kernel
theorem dX10_ordersOf_132 : decode cX10_ordersOf 132 = .ok (.iload_n 2, 1) := by decide +kernel
theorem dX10_ordersOf_133 : decode cX10_ordersOf 133 = .ok (.iload_n 1, 1) := by decide +kernel
theorem dX10_ordersOf_134 : decode cX10_ordersOf 134 = .ok (.if_icmp .ne 7, 3) := by decide +kernel
theorem dX10_ordersOf_137 : decode cX10_ordersOf 137 = .ok (.iconst 1, 1) := by decide +kernel
theorem dX10_ordersOf_138 : decode cX10_ordersOf 138 = .ok (.goto 4, 3) := by decide +kernel
theorem dX10_ordersOf_141 : decode cX10_ordersOf 141 = .ok (.iconst 0, 1) := by decide +kernel
theorem dX10_ordersOf_142 : decode cX10_ordersOf 142 = .ok (.iastore, 1) := by decide +kernel
theorem dX10_ordersOf_143 : decode cX10_ordersOf 143 = .ok (.iconst 0, 1) := by decide +kernel
theorem dX10_ordersOf_144 : decode cX10_ordersOf 144 = .ok (.istore_n 3, 1) := by decide +kernel
theorem dX10_ordersOf_145 : decode cX10_ordersOf 145 = .ok (.iload_n 3, 1) := by decide +kernel
theorem dX10_ordersOf_146 : decode cX10_ordersOf 146 = .ok (.aload_n 0, 1) := by decide +kernel
theorem dX10_ordersOf_147 : decode cX10_ordersOf 147 = .ok (.getfield 91, 3) := by decide +kernel
theorem dX10_ordersOf_150 : decode cX10_ordersOf 150 = .ok (.if_icmp .ge 76, 3) := by decide +kernel
theorem dX10_ordersOf_153 : decode cX10_ordersOf 153 = .ok (.iload_n 2, 1) := by decide +kernel
theorem dX10_ordersOf_154 : decode cX10_ordersOf 154 = .ok (.iload_n 1, 1) := by decide +kernel
theorem dX10_ordersOf_155 : decode cX10_ordersOf 155 = .ok (.iconst (-1), 1) := by decide +kernel
theorem dX10_ordersOf_156 : decode cX10_ordersOf 156 = .ok (.ixor, 1) := by decide +kernel
theorem dX10_ordersOf_157 : decode cX10_ordersOf 157 = .ok (.iand, 1) := by decide +kernel
theorem dX10_ordersOf_158 : decode cX10_ordersOf 158 = .ok (.ifCond .ne 68, 3) := by decide +kernel
theorem dX10_ordersOf_161 : decode cX10_ordersOf 161 = .ok (.iload_n 1, 1) := by decide +kernel
theorem dX10_ordersOf_162 : decode cX10_ordersOf 162 = .ok (.iload_n 2, 1) := by decide +kernel
theorem dX10_ordersOf_163 : decode cX10_ordersOf 163 = .ok (.iconst (-1), 1) := by decide +kernel
theorem dX10_ordersOf_164 : decode cX10_ordersOf 164 = .ok (.ixor, 1) := by decide +kernel
theorem dX10_ordersOf_165 : decode cX10_ordersOf 165 = .ok (.iand, 1) := by decide +kernel
theorem dX10_ordersOf_166 : decode cX10_ordersOf 166 = .ok (.iconst 1, 1) := by decide +kernel
theorem dX10_ordersOf_167 : decode cX10_ordersOf 167 = .ok (.iload_n 3, 1) := by decide +kernel
theorem dX10_ordersOf_168 : decode cX10_ordersOf 168 = .ok (.ishl, 1) := by decide +kernel
theorem dX10_ordersOf_169 : decode cX10_ordersOf 169 = .ok (.iand, 1) := by decide +kernel
theorem dX10_ordersOf_170 : decode cX10_ordersOf 170 = .ok (.ifCond .eq 19, 3) := by decide +kernel
theorem dX10_ordersOf_173 : decode cX10_ordersOf 173 = .ok (.aload_n 0, 1) := by decide +kernel
theorem dX10_ordersOf_174 : decode cX10_ordersOf 174 = .ok (.iload_n 3, 1) := by decide +kernel
theorem dX10_ordersOf_175 : decode cX10_ordersOf 175 = .ok (.iload_n 2, 1) := by decide +kernel
theorem dX10_ordersOf_176 : decode cX10_ordersOf 176 = .ok (.invokestatic 162, 3) := by decide +kernel
theorem dX10_ordersOf_179 : decode cX10_ordersOf 179 = .ok (.invokevirtual 187, 3) := by decide +kernel
theorem dX10_ordersOf_182 : decode cX10_ordersOf 182 = .ok (.ifCond .eq 7, 3) := by decide +kernel
theorem dX10_ordersOf_185 : decode cX10_ordersOf 185 = .ok (.iconst 1, 1) := by decide +kernel
theorem dX10_ordersOf_186 : decode cX10_ordersOf 186 = .ok (.goto 4, 3) := by decide +kernel
theorem dX10_ordersOf_189 : decode cX10_ordersOf 189 = .ok (.iconst 0, 1) := by decide +kernel
theorem dX10_ordersOf_190 : decode cX10_ordersOf 190 = .ok (.istore 4, 2) := by decide +kernel
theorem dX10_ordersOf_192 : decode cX10_ordersOf 192 = .ok (.aload_n 0, 1) := by decide +kernel
theorem dX10_ordersOf_193 : decode cX10_ordersOf 193 = .ok (.getfield 46, 3) := by decide +kernel
theorem dX10_ordersOf_196 : decode cX10_ordersOf 196 = .ok (.iload_n 2, 1) := by decide +kernel
theorem dX10_ordersOf_197 : decode cX10_ordersOf 197 = .ok (.dup2, 1) := by decide +kernel
theorem dX10_ordersOf_198 : decode cX10_ordersOf 198 = .ok (.iaload, 1) := by decide +kernel
theorem dX10_ordersOf_199 : decode cX10_ordersOf 199 = .ok (.iload 4, 2) := by decide +kernel
theorem dX10_ordersOf_201 : decode cX10_ordersOf 201 = .ok (.ifCond .eq 16, 3) := by decide +kernel
theorem dX10_ordersOf_204 : decode cX10_ordersOf 204 = .ok (.aload_n 0, 1) := by decide +kernel
theorem dX10_ordersOf_205 : decode cX10_ordersOf 205 = .ok (.getfield 46, 3) := by decide +kernel
theorem dX10_ordersOf_208 : decode cX10_ordersOf 208 = .ok (.iload_n 2, 1) := by decide +kernel
theorem dX10_ordersOf_209 : decode cX10_ordersOf 209 = .ok (.iconst 1, 1) := by decide +kernel
theorem dX10_ordersOf_210 : decode cX10_ordersOf 210 = .ok (.iload_n 3, 1) := by decide +kernel
theorem dX10_ordersOf_211 : decode cX10_ordersOf 211 = .ok (.ishl, 1) := by decide +kernel
theorem dX10_ordersOf_212 : decode cX10_ordersOf 212 = .ok (.ior, 1) := by decide +kernel
theorem dX10_ordersOf_213 : decode cX10_ordersOf 213 = .ok (.iaload, 1) := by decide +kernel
theorem dX10_ordersOf_214 : decode cX10_ordersOf 214 = .ok (.goto 4, 3) := by decide +kernel
theorem dX10_ordersOf_217 : decode cX10_ordersOf 217 = .ok (.iconst 0, 1) := by decide +kernel
theorem dX10_ordersOf_218 : decode cX10_ordersOf 218 = .ok (.iadd, 1) := by decide +kernel
theorem dX10_ordersOf_219 : decode cX10_ordersOf 219 = .ok (.iastore, 1) := by decide +kernel
theorem dX10_ordersOf_220 : decode cX10_ordersOf 220 = .ok (.iinc 3 1, 3) := by decide +kernel
theorem dX10_ordersOf_223 : decode cX10_ordersOf 223 = .ok (.goto (-78), 3) := by decide +kernel
theorem dX10_ordersOf_226 : decode cX10_ordersOf 226 = .ok (.iinc 2 (-1), 3) := by decide +kernel
theorem dX10_ordersOf_229 : decode cX10_ordersOf 229 = .ok (.goto (-106), 3) := by decide +kernel
theorem dX10_ordersOf_232 : decode cX10_ordersOf 232 = .ok (.aload_n 0, 1) := by decide +kernel
theorem dX10_ordersOf_233 : decode cX10_ordersOf 233 = .ok (.getfield 43, 3) := by decide +kernel
theorem dX10_ordersOf_236 : decode cX10_ordersOf 236 = .ok (.iload_n 1, 1) := by decide +kernel
theorem dX10_ordersOf_237 : decode cX10_ordersOf 237 = .ok (.iaload, 1) := by decide +kernel
theorem dX10_ordersOf_238 : decode cX10_ordersOf 238 = .ok (.ireturn, 1) := by decide +kernel
def fX10_ordersOf_218 (F : Nat) (t_stones : Int32) (t_has_ : Nat → Int32) (t_slot_ : Nat → Int32) (k123 : Int32 → Int32 → (Nat → Int32) → (Nat → Int32) → Option (Int32 × (Nat → Int32) × (Nat → Int32))) (k145 : Int32 → Int32 → Int32 → (Nat → Int32) → (Nat → Int32) → Option (Int32 × (Nat → Int32) × (Nat → Int32))) (x97 : Int32) (x98 : Int32) (x99 : Int32) (s100 : Int32) (s101 : Int32) (s102 : Int32) (m_t_fore__103 : Nat → Int32) (m_t_back__104 : Nat → Int32) : Option (Int32 × (Nat → Int32) × (Nat → Int32)) :=
(if s102 < 0 ∨ 512 ≤ s102.toNatClampNeg then none else
(jl_let (upd m_t_back__104 s102.toNatClampNeg (s101 + s100)) fun g110 =>
(jl_let (x99 + Int32.ofInt (1)) fun v111 =>
(k145 x97 x98 v111 m_t_fore__103 g110))))
def fX10_ordersOf_190 (F : Nat) (t_stones : Int32) (t_has_ : Nat → Int32) (t_slot_ : Nat → Int32) (k123 : Int32 → Int32 → (Nat → Int32) → (Nat → Int32) → Option (Int32 × (Nat → Int32) × (Nat → Int32))) (k145 : Int32 → Int32 → Int32 → (Nat → Int32) → (Nat → Int32) → Option (Int32 × (Nat → Int32) × (Nat → Int32))) (x77 : Int32) (x78 : Int32) (x79 : Int32) (s80 : Int32) (m_t_fore__81 : Nat → Int32) (m_t_back__82 : Nat → Int32) : Option (Int32 × (Nat → Int32) × (Nat → Int32)) :=
(if x78 < 0 ∨ 512 ≤ x78.toNatClampNeg then none else
(if s80 = 0 then
(fX10_ordersOf_218 F t_stones t_has_ t_slot_ k123 k145 x77 x78 x79 ((0 : Int32)) (m_t_back__82 x78.toNatClampNeg) x78 m_t_fore__81 m_t_back__82)
else
(if (x78 ||| (((1 : Int32)) <<< (x79 &&& 31))) < 0 ∨ 512 ≤ (x78 ||| (((1 : Int32)) <<< (x79 &&& 31))).toNatClampNeg then none else
(fX10_ordersOf_218 F t_stones t_has_ t_slot_ k123 k145 x77 x78 x79 (m_t_back__82 (x78 ||| (((1 : Int32)) <<< (x79 &&& 31))).toNatClampNeg) (m_t_back__82 x78.toNatClampNeg) x78 m_t_fore__81 m_t_back__82))))
def fX10_ordersOf_189 (F : Nat) (t_stones : Int32) (t_has_ : Nat → Int32) (t_slot_ : Nat → Int32) (k123 : Int32 → Int32 → (Nat → Int32) → (Nat → Int32) → Option (Int32 × (Nat → Int32) × (Nat → Int32))) (k145 : Int32 → Int32 → Int32 → (Nat → Int32) → (Nat → Int32) → Option (Int32 × (Nat → Int32) × (Nat → Int32))) (x67 : Int32) (x68 : Int32) (x69 : Int32) (m_t_fore__70 : Nat → Int32) (m_t_back__71 : Nat → Int32) : Option (Int32 × (Nat → Int32) × (Nat → Int32)) :=
(fX10_ordersOf_190 F t_stones t_has_ t_slot_ k123 k145 x67 x68 x69 ((0 : Int32)) m_t_fore__70 m_t_back__71)
def bX10_ordersOf_145 (F : Nat) (t_stones : Int32) (t_has_ : Nat → Int32) (t_slot_ : Nat → Int32) (k123 : Int32 → Int32 → (Nat → Int32) → (Nat → Int32) → Option (Int32 × (Nat → Int32) × (Nat → Int32))) (k145 : Int32 → Int32 → Int32 → (Nat → Int32) → (Nat → Int32) → Option (Int32 × (Nat → Int32) × (Nat → Int32))) (x37 : Int32) (x38 : Int32) (x39 : Int32) (m_t_fore__40 : Nat → Int32) (m_t_back__41 : Nat → Int32) : Option (Int32 × (Nat → Int32) × (Nat → Int32)) :=
(if t_stones ≤ x39 then
(jl_let (x38 + Int32.ofInt (-1)) fun v64 =>
(k123 x37 v64 m_t_fore__40 m_t_back__41))
else
(if (x38 &&& (x37 ^^^ ((-1 : Int32)))) = 0 then
(if ((x37 &&& (x38 ^^^ ((-1 : Int32)))) &&& (((1 : Int32)) <<< (x39 &&& 31))) = 0 then
(fX10_ordersOf_189 F t_stones t_has_ t_slot_ k123 k145 x37 x38 x39 m_t_fore__40 m_t_back__41)
else
((fX10_many F x38).bind fun r72 =>
((fX10_isBy t_has_ t_slot_ x39 r72).bind fun r74 =>
(if r74 = 0 then
(fX10_ordersOf_189 F t_stones t_has_ t_slot_ k123 k145 x37 x38 x39 m_t_fore__40 m_t_back__41)
else
(fX10_ordersOf_190 F t_stones t_has_ t_slot_ k123 k145 x37 x38 x39 ((1 : Int32)) m_t_fore__40 m_t_back__41)))))
else
(jl_let (x38 + Int32.ofInt (-1)) fun v83 =>
(k123 x37 v83 m_t_fore__40 m_t_back__41))))
def lX10_ordersOf_145 (F : Nat) (t_stones : Int32) (t_has_ : Nat → Int32) (t_slot_ : Nat → Int32) (k123 : Int32 → Int32 → (Nat → Int32) → (Nat → Int32) → Option (Int32 × (Nat → Int32) × (Nat → Int32))) (F2 : Nat) (x37 : Int32) (x38 : Int32) (x39 : Int32) (m_t_fore__40 : Nat → Int32) (m_t_back__41 : Nat → Int32) : Option (Int32 × (Nat → Int32) × (Nat → Int32)) := jl_loop5 (bX10_ordersOf_145 F t_stones t_has_ t_slot_ k123) F2 x37 x38 x39 m_t_fore__40 m_t_back__41
def fX10_ordersOf_142 (F : Nat) (t_stones : Int32) (t_has_ : Nat → Int32) (t_slot_ : Nat → Int32) (k123 : Int32 → Int32 → (Nat → Int32) → (Nat → Int32) → Option (Int32 × (Nat → Int32) × (Nat → Int32))) (x22 : Int32) (x23 : Int32) (s24 : Int32) (s25 : Int32) (m_t_fore__26 : Nat → Int32) (m_t_back__27 : Nat → Int32) : Option (Int32 × (Nat → Int32) × (Nat → Int32)) :=
(if s25 < 0 ∨ 512 ≤ s25.toNatClampNeg then none else
(jl_let (upd m_t_back__27 s25.toNatClampNeg s24) fun g36 =>
(lX10_ordersOf_145 F t_stones t_has_ t_slot_ k123 F x22 x23 ((0 : Int32)) m_t_fore__26 g36)))
def bX10_ordersOf_123 (F : Nat) (t_stones : Int32) (t_has_ : Nat → Int32) (t_slot_ : Nat → Int32)  (k123 : Int32 → Int32 → (Nat → Int32) → (Nat → Int32) → Option (Int32 × (Nat → Int32) × (Nat → Int32))) (x8 : Int32) (x9 : Int32) (m_t_fore__10 : Nat → Int32) (m_t_back__11 : Nat → Int32) : Option (Int32 × (Nat → Int32) × (Nat → Int32)) :=
(if x9 < 0 then
(if x8 < 0 ∨ 512 ≤ x8.toNatClampNeg then none else
(some (m_t_fore__10 x8.toNatClampNeg, m_t_fore__10, m_t_back__11)))
else
(if x9 = x8 then
(fX10_ordersOf_142 F t_stones t_has_ t_slot_ k123 x8 x9 ((1 : Int32)) x9 m_t_fore__10 m_t_back__11)
else
(fX10_ordersOf_142 F t_stones t_has_ t_slot_ k123 x8 x9 ((0 : Int32)) x9 m_t_fore__10 m_t_back__11)))
def lX10_ordersOf_123 (F : Nat) (t_stones : Int32) (t_has_ : Nat → Int32) (t_slot_ : Nat → Int32)  (F2 : Nat) (x8 : Int32) (x9 : Int32) (m_t_fore__10 : Nat → Int32) (m_t_back__11 : Nat → Int32) : Option (Int32 × (Nat → Int32) × (Nat → Int32)) := jl_loop4 (bX10_ordersOf_123 F t_stones t_has_ t_slot_ ) F2 x8 x9 m_t_fore__10 m_t_back__11
def fX10_ordersOf_105 (F : Nat) (t_stones : Int32) (t_has_ : Nat → Int32) (t_slot_ : Nat → Int32) (k7 : Int32 → Int32 → (Nat → Int32) → (Nat → Int32) → Option (Int32 × (Nat → Int32) × (Nat → Int32))) (k31 : Int32 → Int32 → Int32 → (Nat → Int32) → (Nat → Int32) → Option (Int32 × (Nat → Int32) × (Nat → Int32))) (x86 : Int32) (x87 : Int32) (x88 : Int32) (s89 : Int32) (s90 : Int32) (s91 : Int32) (m_t_fore__92 : Nat → Int32) (m_t_back__93 : Nat → Int32) : Option (Int32 × (Nat → Int32) × (Nat → Int32)) :=
(if s91 < 0 ∨ 512 ≤ s91.toNatClampNeg then none else
(jl_let (upd m_t_fore__92 s91.toNatClampNeg (s90 + s89)) fun g107 =>
(jl_let (x88 + Int32.ofInt (1)) fun v108 =>
(k31 x86 x87 v108 g107 m_t_back__93))))
def fX10_ordersOf_75 (F : Nat) (t_stones : Int32) (t_has_ : Nat → Int32) (t_slot_ : Nat → Int32) (k7 : Int32 → Int32 → (Nat → Int32) → (Nat → Int32) → Option (Int32 × (Nat → Int32) × (Nat → Int32))) (k31 : Int32 → Int32 → Int32 → (Nat → Int32) → (Nat → Int32) → Option (Int32 × (Nat → Int32) × (Nat → Int32))) (x56 : Int32) (x57 : Int32) (x58 : Int32) (s59 : Int32) (m_t_fore__60 : Nat → Int32) (m_t_back__61 : Nat → Int32) : Option (Int32 × (Nat → Int32) × (Nat → Int32)) :=
(if x57 < 0 ∨ 512 ≤ x57.toNatClampNeg then none else
(if s59 = 0 then
(fX10_ordersOf_105 F t_stones t_has_ t_slot_ k7 k31 x56 x57 x58 ((0 : Int32)) (m_t_fore__60 x57.toNatClampNeg) x57 m_t_fore__60 m_t_back__61)
else
(if (x57 &&& ((((1 : Int32)) <<< (x58 &&& 31)) ^^^ ((-1 : Int32)))) < 0 ∨ 512 ≤ (x57 &&& ((((1 : Int32)) <<< (x58 &&& 31)) ^^^ ((-1 : Int32)))).toNatClampNeg then none else
(fX10_ordersOf_105 F t_stones t_has_ t_slot_ k7 k31 x56 x57 x58 (m_t_fore__60 (x57 &&& ((((1 : Int32)) <<< (x58 &&& 31)) ^^^ ((-1 : Int32)))).toNatClampNeg) (m_t_fore__60 x57.toNatClampNeg) x57 m_t_fore__60 m_t_back__61))))
def fX10_ordersOf_74 (F : Nat) (t_stones : Int32) (t_has_ : Nat → Int32) (t_slot_ : Nat → Int32) (k7 : Int32 → Int32 → (Nat → Int32) → (Nat → Int32) → Option (Int32 × (Nat → Int32) × (Nat → Int32))) (k31 : Int32 → Int32 → Int32 → (Nat → Int32) → (Nat → Int32) → Option (Int32 × (Nat → Int32) × (Nat → Int32))) (x51 : Int32) (x52 : Int32) (x53 : Int32) (m_t_fore__54 : Nat → Int32) (m_t_back__55 : Nat → Int32) : Option (Int32 × (Nat → Int32) × (Nat → Int32)) :=
(fX10_ordersOf_75 F t_stones t_has_ t_slot_ k7 k31 x51 x52 x53 ((0 : Int32)) m_t_fore__54 m_t_back__55)
def bX10_ordersOf_31 (F : Nat) (t_stones : Int32) (t_has_ : Nat → Int32) (t_slot_ : Nat → Int32) (k7 : Int32 → Int32 → (Nat → Int32) → (Nat → Int32) → Option (Int32 × (Nat → Int32) × (Nat → Int32))) (k31 : Int32 → Int32 → Int32 → (Nat → Int32) → (Nat → Int32) → Option (Int32 × (Nat → Int32) × (Nat → Int32))) (x30 : Int32) (x31 : Int32) (x32 : Int32) (m_t_fore__33 : Nat → Int32) (m_t_back__34 : Nat → Int32) : Option (Int32 × (Nat → Int32) × (Nat → Int32)) :=
(if t_stones ≤ x32 then
(jl_let (x31 + Int32.ofInt (1)) fun v43 =>
(k7 x30 v43 m_t_fore__33 m_t_back__34))
else
(if (x31 &&& (x30 ^^^ ((-1 : Int32)))) = 0 then
(if ((x31 >>> (x32 &&& 31)) &&& ((1 : Int32))) = ((1 : Int32)) then
((fX10_many F x31).bind fun r46 =>
((fX10_isBy t_has_ t_slot_ x32 (r46 - ((1 : Int32)))).bind fun r48 =>
(if r48 = 0 then
(fX10_ordersOf_74 F t_stones t_has_ t_slot_ k7 k31 x30 x31 x32 m_t_fore__33 m_t_back__34)
else
(fX10_ordersOf_75 F t_stones t_has_ t_slot_ k7 k31 x30 x31 x32 ((1 : Int32)) m_t_fore__33 m_t_back__34))))
else
(fX10_ordersOf_74 F t_stones t_has_ t_slot_ k7 k31 x30 x31 x32 m_t_fore__33 m_t_back__34))
else
(jl_let (x31 + Int32.ofInt (1)) fun v62 =>
(k7 x30 v62 m_t_fore__33 m_t_back__34))))
def lX10_ordersOf_31 (F : Nat) (t_stones : Int32) (t_has_ : Nat → Int32) (t_slot_ : Nat → Int32) (k7 : Int32 → Int32 → (Nat → Int32) → (Nat → Int32) → Option (Int32 × (Nat → Int32) × (Nat → Int32))) (F2 : Nat) (x30 : Int32) (x31 : Int32) (x32 : Int32) (m_t_fore__33 : Nat → Int32) (m_t_back__34 : Nat → Int32) : Option (Int32 × (Nat → Int32) × (Nat → Int32)) := jl_loop5 (bX10_ordersOf_31 F t_stones t_has_ t_slot_ k7) F2 x30 x31 x32 m_t_fore__33 m_t_back__34
def fX10_ordersOf_28 (F : Nat) (t_stones : Int32) (t_has_ : Nat → Int32) (t_slot_ : Nat → Int32) (k7 : Int32 → Int32 → (Nat → Int32) → (Nat → Int32) → Option (Int32 × (Nat → Int32) × (Nat → Int32))) (x13 : Int32) (x14 : Int32) (s15 : Int32) (s16 : Int32) (m_t_fore__17 : Nat → Int32) (m_t_back__18 : Nat → Int32) : Option (Int32 × (Nat → Int32) × (Nat → Int32)) :=
(if s16 < 0 ∨ 512 ≤ s16.toNatClampNeg then none else
(jl_let (upd m_t_fore__17 s16.toNatClampNeg s15) fun g29 =>
(lX10_ordersOf_31 F t_stones t_has_ t_slot_ k7 F x13 x14 ((0 : Int32)) g29 m_t_back__18)))
def bX10_ordersOf_7 (F : Nat) (t_stones : Int32) (t_has_ : Nat → Int32) (t_slot_ : Nat → Int32)  (k7 : Int32 → Int32 → (Nat → Int32) → (Nat → Int32) → Option (Int32 × (Nat → Int32) × (Nat → Int32))) (x3 : Int32) (x4 : Int32) (m_t_fore__5 : Nat → Int32) (m_t_back__6 : Nat → Int32) : Option (Int32 × (Nat → Int32) × (Nat → Int32)) :=
(if ((512 : Int32)) ≤ x4 then
(lX10_ordersOf_123 F t_stones t_has_ t_slot_ F x3 ((511 : Int32)) m_t_fore__5 m_t_back__6)
else
(if x4 = 0 then
(fX10_ordersOf_28 F t_stones t_has_ t_slot_ k7 x3 x4 ((1 : Int32)) x4 m_t_fore__5 m_t_back__6)
else
(fX10_ordersOf_28 F t_stones t_has_ t_slot_ k7 x3 x4 ((0 : Int32)) x4 m_t_fore__5 m_t_back__6)))
def lX10_ordersOf_7 (F : Nat) (t_stones : Int32) (t_has_ : Nat → Int32) (t_slot_ : Nat → Int32)  (F2 : Nat) (x3 : Int32) (x4 : Int32) (m_t_fore__5 : Nat → Int32) (m_t_back__6 : Nat → Int32) : Option (Int32 × (Nat → Int32) × (Nat → Int32)) := jl_loop4 (bX10_ordersOf_7 F t_stones t_has_ t_slot_ ) F2 x3 x4 m_t_fore__5 m_t_back__6
def fX10_ordersOf (F : Nat) (t_stones : Int32) (t_has_ : Nat → Int32) (t_slot_ : Nat → Int32) (t_fore_ : Nat → Int32) (t_back_ : Nat → Int32) : Option (Int32 × (Nat → Int32) × (Nat → Int32)) :=
((fX10_fresh F t_slot_).bind fun r1 =>
(lX10_ordersOf_7 F t_stones t_has_ t_slot_ F r1 ((0 : Int32)) t_fore_ t_back_))
def oX10_ordersOf (D : jv_D) (h_t : Nat) (h_t_text : Nat) (h_t_told : Nat) (h_t_touches : Nat) (h_t_has : Nat) (h_t_old : Nat) (h_t_beside : Nat) (h_t_slot : Nat) (h_t_row : Nat) (h_t_free : Nat) (h_t_worth : Nat) (h_t_fore : Nat) (h_t_back : Nat) (h_t_got : Nat) (t_length : Int32) (t_at : Int32) (t_stones : Int32) (t_kept : Int32) (t_done : Int32) (t_rows : Int32) (t_frees : Int32) (t_fewest : Int32) (t_has_ : Nat → Int32) (t_slot_ : Nat → Int32) (r : Int32 × (Nat → Int32) × (Nat → Int32)) : va_W := [(h_t, .inr (8, [.int t_length, .ref h_t_text, .int t_at, .ref h_t_told, .ref h_t_touches, .ref h_t_has, .ref h_t_old, .ref h_t_beside, .int t_stones, .ref h_t_slot, .int t_kept, .int t_done, .int t_rows, .ref h_t_row, .ref h_t_free, .int t_frees, .ref h_t_worth, .ref h_t_fore, .ref h_t_back, .int t_fewest, .ref h_t_got])), (h_t_has, jI D 4 t_has_), (h_t_slot, jI D 240 t_slot_), (h_t_fore, jI D 512 r.2.1), (h_t_back, jI D 512 r.2.2)]
set_option maxHeartbeats 40000000 in
set_option maxRecDepth 100000 in
theorem mX10_ordersOf (l : Launch) (D : jv_D) (F : Nat) (h_t : Nat) (h_t_text : Nat) (h_t_told : Nat) (h_t_touches : Nat) (h_t_has : Nat) (h_t_old : Nat) (h_t_beside : Nat) (h_t_slot : Nat) (h_t_row : Nat) (h_t_free : Nat) (h_t_worth : Nat) (h_t_fore : Nat) (h_t_back : Nat) (h_t_got : Nat) (t_length : Int32) (t_at : Int32) (t_stones : Int32) (t_kept : Int32) (t_done : Int32) (t_rows : Int32) (t_frees : Int32) (t_fewest : Int32) (t_has_ : Nat → Int32) (t_slot_ : Nat → Int32) (t_fore_ : Nat → Int32) (t_back_ : Nat → Int32) (r : Int32 × (Nat → Int32) × (Nat → Int32)) (h : fX10_ordersOf F t_stones t_has_ t_slot_ t_fore_ t_back_ = some r) : MM l yX10_ordersOf (jW yX10_ordersOf cX10_ordersOf 5 (some .int)) ({ frames := 1, cells := 0, slots := 0, locals := 22 }) D [.ref h_t] [(h_t, .inr (8, [.int t_length, .ref h_t_text, .int t_at, .ref h_t_told, .ref h_t_touches, .ref h_t_has, .ref h_t_old, .ref h_t_beside, .int t_stones, .ref h_t_slot, .int t_kept, .int t_done, .int t_rows, .ref h_t_row, .ref h_t_free, .int t_frees, .ref h_t_worth, .ref h_t_fore, .ref h_t_back, .int t_fewest, .ref h_t_got])), (h_t_has, jI D 4 t_has_), (h_t_slot, jI D 240 t_slot_), (h_t_fore, jI D 512 t_fore_), (h_t_back, jI D 512 t_back_)] (some (.int r.1)) (oX10_ordersOf D h_t h_t_text h_t_told h_t_touches h_t_has h_t_old h_t_beside h_t_slot h_t_row h_t_free h_t_worth h_t_fore h_t_back h_t_got t_length t_at t_stones t_kept t_done t_rows t_frees t_fewest t_has_ t_slot_ r) := by
  refine mn_of hpX10_ordersOf (Nat.le_of_ble_eq_true rfl) ?_
  intro X hXl C E0 hN
  subst hXl
  replace C : JC D X 5 RX10 cX10_ordersOf ({ frames := 1, cells := 0, slots := 0, locals := 22 }) := C
  have E : JE D X 0 0 (some .int) (fun _ : Unit => (some (.int r.1))) (fun _ : Unit => (oX10_ordersOf D h_t h_t_text h_t_told h_t_touches h_t_has h_t_old h_t_beside h_t_slot h_t_row h_t_free h_t_worth h_t_fore h_t_back h_t_got t_length t_at t_stones t_kept t_done t_rows t_frees t_fewest t_has_ t_slot_ r)) := E0 0 0 rfl rfl
  clear E0 hN
  show JJ D X 5 0 0 0 [(0, .ref h_t)] [] [(h_t, .inr (8, [.int t_length, .ref h_t_text, .int t_at, .ref h_t_told, .ref h_t_touches, .ref h_t_has, .ref h_t_old, .ref h_t_beside, .int t_stones, .ref h_t_slot, .int t_kept, .int t_done, .int t_rows, .ref h_t_row, .ref h_t_free, .int t_frees, .ref h_t_worth, .ref h_t_fore, .ref h_t_back, .int t_fewest, .ref h_t_got])), (h_t_has, jI D 4 t_has_), (h_t_slot, jI D 240 t_slot_), (h_t_fore, jI D 512 t_fore_), (h_t_back, jI D 512 t_back_)]
  unfold fX10_ordersOf at h
  have L123 : ∀ (x8 : Int32) (x9 : Int32) (m_t_fore__10 : Nat → Int32) (m_t_back__11 : Nat → Int32), lX10_ordersOf_123 F t_stones t_has_ t_slot_  F x8 x9 m_t_fore__10 m_t_back__11 = some r → JJ D X 5 0 0 123 [(0, .ref h_t), (1, .int x8), (2, .int x9)] [] [(h_t, .inr (8, [.int t_length, .ref h_t_text, .int t_at, .ref h_t_told, .ref h_t_touches, .ref h_t_has, .ref h_t_old, .ref h_t_beside, .int t_stones, .ref h_t_slot, .int t_kept, .int t_done, .int t_rows, .ref h_t_row, .ref h_t_free, .int t_frees, .ref h_t_worth, .ref h_t_fore, .ref h_t_back, .int t_fewest, .ref h_t_got])), (h_t_has, jI D 4 t_has_), (h_t_slot, jI D 240 t_slot_), (h_t_fore, jI D 512 m_t_fore__10), (h_t_back, jI D 512 m_t_back__11)] := by
    intro x8 x9 m_t_fore__10 m_t_back__11 h
    refine jl_ind4 (fun x8 x9 m_t_fore__10 m_t_back__11 => JJ D X 5 0 0 123 [(0, .ref h_t), (1, .int x8), (2, .int x9)] [] [(h_t, .inr (8, [.int t_length, .ref h_t_text, .int t_at, .ref h_t_told, .ref h_t_touches, .ref h_t_has, .ref h_t_old, .ref h_t_beside, .int t_stones, .ref h_t_slot, .int t_kept, .int t_done, .int t_rows, .ref h_t_row, .ref h_t_free, .int t_frees, .ref h_t_worth, .ref h_t_fore, .ref h_t_back, .int t_fewest, .ref h_t_got])), (h_t_has, jI D 4 t_has_), (h_t_slot, jI D 240 t_slot_), (h_t_fore, jI D 512 m_t_fore__10), (h_t_back, jI D 512 m_t_back__11)]) ?_ F x8 x9 m_t_fore__10 m_t_back__11 h
    clear h x8 x9 m_t_fore__10 m_t_back__11
    intro k123 i123 x8 x9 m_t_fore__10 m_t_back__11 h
    replace i123 : ∀ (x8 : Int32) (x9 : Int32) (m_t_fore__10 : Nat → Int32) (m_t_back__11 : Nat → Int32), k123 x8 x9 m_t_fore__10 m_t_back__11 = some r → JJ D X 5 0 0 123 [(0, .ref h_t), (1, .int x8), (2, .int x9)] [] [(h_t, .inr (8, [.int t_length, .ref h_t_text, .int t_at, .ref h_t_told, .ref h_t_touches, .ref h_t_has, .ref h_t_old, .ref h_t_beside, .int t_stones, .ref h_t_slot, .int t_kept, .int t_done, .int t_rows, .ref h_t_row, .ref h_t_free, .int t_frees, .ref h_t_worth, .ref h_t_fore, .ref h_t_back, .int t_fewest, .ref h_t_got])), (h_t_has, jI D 4 t_has_), (h_t_slot, jI D 240 t_slot_), (h_t_fore, jI D 512 m_t_fore__10), (h_t_back, jI D 512 m_t_back__11)] := i123
    show JJ D X 5 0 0 123 [(0, .ref h_t), (1, .int x8), (2, .int x9)] [] [(h_t, .inr (8, [.int t_length, .ref h_t_text, .int t_at, .ref h_t_told, .ref h_t_touches, .ref h_t_has, .ref h_t_old, .ref h_t_beside, .int t_stones, .ref h_t_slot, .int t_kept, .int t_done, .int t_rows, .ref h_t_row, .ref h_t_free, .int t_frees, .ref h_t_worth, .ref h_t_fore, .ref h_t_back, .int t_fewest, .ref h_t_got])), (h_t_has, jI D 4 t_has_), (h_t_slot, jI D 240 t_slot_), (h_t_fore, jI D 512 m_t_fore__10), (h_t_back, jI D 512 m_t_back__11)]
    unfold bX10_ordersOf_123 at h
    have L145 : ∀ (x37 : Int32) (x38 : Int32) (x39 : Int32) (m_t_fore__40 : Nat → Int32) (m_t_back__41 : Nat → Int32), lX10_ordersOf_145 F t_stones t_has_ t_slot_ k123 F x37 x38 x39 m_t_fore__40 m_t_back__41 = some r → JJ D X 5 0 0 145 [(0, .ref h_t), (1, .int x37), (2, .int x38), (3, .int x39)] [] [(h_t, .inr (8, [.int t_length, .ref h_t_text, .int t_at, .ref h_t_told, .ref h_t_touches, .ref h_t_has, .ref h_t_old, .ref h_t_beside, .int t_stones, .ref h_t_slot, .int t_kept, .int t_done, .int t_rows, .ref h_t_row, .ref h_t_free, .int t_frees, .ref h_t_worth, .ref h_t_fore, .ref h_t_back, .int t_fewest, .ref h_t_got])), (h_t_has, jI D 4 t_has_), (h_t_slot, jI D 240 t_slot_), (h_t_fore, jI D 512 m_t_fore__40), (h_t_back, jI D 512 m_t_back__41)] := by
      intro x37 x38 x39 m_t_fore__40 m_t_back__41 h
      refine jl_ind5 (fun x37 x38 x39 m_t_fore__40 m_t_back__41 => JJ D X 5 0 0 145 [(0, .ref h_t), (1, .int x37), (2, .int x38), (3, .int x39)] [] [(h_t, .inr (8, [.int t_length, .ref h_t_text, .int t_at, .ref h_t_told, .ref h_t_touches, .ref h_t_has, .ref h_t_old, .ref h_t_beside, .int t_stones, .ref h_t_slot, .int t_kept, .int t_done, .int t_rows, .ref h_t_row, .ref h_t_free, .int t_frees, .ref h_t_worth, .ref h_t_fore, .ref h_t_back, .int t_fewest, .ref h_t_got])), (h_t_has, jI D 4 t_has_), (h_t_slot, jI D 240 t_slot_), (h_t_fore, jI D 512 m_t_fore__40), (h_t_back, jI D 512 m_t_back__41)]) ?_ F x37 x38 x39 m_t_fore__40 m_t_back__41 h
      clear h x37 x38 x39 m_t_fore__40 m_t_back__41
      intro k145 i145 x37 x38 x39 m_t_fore__40 m_t_back__41 h
      replace i145 : ∀ (x37 : Int32) (x38 : Int32) (x39 : Int32) (m_t_fore__40 : Nat → Int32) (m_t_back__41 : Nat → Int32), k145 x37 x38 x39 m_t_fore__40 m_t_back__41 = some r → JJ D X 5 0 0 145 [(0, .ref h_t), (1, .int x37), (2, .int x38), (3, .int x39)] [] [(h_t, .inr (8, [.int t_length, .ref h_t_text, .int t_at, .ref h_t_told, .ref h_t_touches, .ref h_t_has, .ref h_t_old, .ref h_t_beside, .int t_stones, .ref h_t_slot, .int t_kept, .int t_done, .int t_rows, .ref h_t_row, .ref h_t_free, .int t_frees, .ref h_t_worth, .ref h_t_fore, .ref h_t_back, .int t_fewest, .ref h_t_got])), (h_t_has, jI D 4 t_has_), (h_t_slot, jI D 240 t_slot_), (h_t_fore, jI D 512 m_t_fore__40), (h_t_back, jI D 512 m_t_back__41)] := i145
      show JJ D X 5 0 0 145 [(0, .ref h_t), (1, .int x37), (2, .int x38), (3, .int x39)] [] [(h_t, .inr (8, [.int t_length, .ref h_t_text, .int t_at, .ref h_t_told, .ref h_t_touches, .ref h_t_has, .ref h_t_old, .ref h_t_beside, .int t_stones, .ref h_t_slot, .int t_kept, .int t_done, .int t_rows, .ref h_t_row, .ref h_t_free, .int t_frees, .ref h_t_worth, .ref h_t_fore, .ref h_t_back, .int t_fewest, .ref h_t_got])), (h_t_has, jI D 4 t_has_), (h_t_slot, jI D 240 t_slot_), (h_t_fore, jI D 512 m_t_fore__40), (h_t_back, jI D 512 m_t_back__41)]
      unfold bX10_ordersOf_145 at h
      have L218 : ∀ (x97 : Int32) (x98 : Int32) (x99 : Int32) (s100 : Int32) (s101 : Int32) (s102 : Int32) (m_t_fore__103 : Nat → Int32) (m_t_back__104 : Nat → Int32), fX10_ordersOf_218 F t_stones t_has_ t_slot_ k123 k145 x97 x98 x99 s100 s101 s102 m_t_fore__103 m_t_back__104 = some r → JJ D X 5 0 0 218 [(0, .ref h_t), (1, .int x97), (2, .int x98), (3, .int x99)] [.int s100, .int s101, .int s102, .ref h_t_back] [(h_t, .inr (8, [.int t_length, .ref h_t_text, .int t_at, .ref h_t_told, .ref h_t_touches, .ref h_t_has, .ref h_t_old, .ref h_t_beside, .int t_stones, .ref h_t_slot, .int t_kept, .int t_done, .int t_rows, .ref h_t_row, .ref h_t_free, .int t_frees, .ref h_t_worth, .ref h_t_fore, .ref h_t_back, .int t_fewest, .ref h_t_got])), (h_t_has, jI D 4 t_has_), (h_t_slot, jI D 240 t_slot_), (h_t_fore, jI D 512 m_t_fore__103), (h_t_back, jI D 512 m_t_back__104)] := by
        intro x97 x98 x99 s100 s101 s102 m_t_fore__103 m_t_back__104 h
        unfold fX10_ordersOf_218 at h
        refine j_iadd C dX10_ordersOf_218 ?_
        refine jl_inb h (fun b109 h => ?_)
        refine j_iast C 4 rfl b109 dX10_ordersOf_219 (ws' := fun g110 => [(h_t, .inr (8, [.int t_length, .ref h_t_text, .int t_at, .ref h_t_told, .ref h_t_touches, .ref h_t_has, .ref h_t_old, .ref h_t_beside, .int t_stones, .ref h_t_slot, .int t_kept, .int t_done, .int t_rows, .ref h_t_row, .ref h_t_free, .int t_frees, .ref h_t_worth, .ref h_t_fore, .ref h_t_back, .int t_fewest, .ref h_t_got])), (h_t_has, jI D 4 t_has_), (h_t_slot, jI D 240 t_slot_), (h_t_fore, jI D 512 m_t_fore__103), (h_t_back, jI D 512 g110)]) (fun _ => rfl) h (fun g110 h => ?_)
        refine j_iinc C dX10_ordersOf_220 3 rfl (lv' := fun v111 => [(3, .int v111), (0, .ref h_t), (1, .int x97), (2, .int x98)]) (by decide) (fun _ => rfl) h (fun v111 h => ?_)
        refine j_goto C dX10_ordersOf_223 (tgt := 145) (by decide) ?_
        refine j_sub (lv' := [(0, .ref h_t), (1, .int x97), (2, .int x98), (3, .int v111)]) [1, 2, 3, 0] rfl ?_
        exact i145 x97 x98 v111 m_t_fore__103 g110 h
      have L190 : ∀ (x77 : Int32) (x78 : Int32) (x79 : Int32) (s80 : Int32) (m_t_fore__81 : Nat → Int32) (m_t_back__82 : Nat → Int32), fX10_ordersOf_190 F t_stones t_has_ t_slot_ k123 k145 x77 x78 x79 s80 m_t_fore__81 m_t_back__82 = some r → JJ D X 5 0 0 190 [(0, .ref h_t), (1, .int x77), (2, .int x78), (3, .int x79)] [.int s80] [(h_t, .inr (8, [.int t_length, .ref h_t_text, .int t_at, .ref h_t_told, .ref h_t_touches, .ref h_t_has, .ref h_t_old, .ref h_t_beside, .int t_stones, .ref h_t_slot, .int t_kept, .int t_done, .int t_rows, .ref h_t_row, .ref h_t_free, .int t_frees, .ref h_t_worth, .ref h_t_fore, .ref h_t_back, .int t_fewest, .ref h_t_got])), (h_t_has, jI D 4 t_has_), (h_t_slot, jI D 240 t_slot_), (h_t_fore, jI D 512 m_t_fore__81), (h_t_back, jI D 512 m_t_back__82)] := by
        intro x77 x78 x79 s80 m_t_fore__81 m_t_back__82 h
        unfold fX10_ordersOf_190 at h
        refine j_istoreC C dX10_ordersOf_190 (lv' := [(4, .int s80), (0, .ref h_t), (1, .int x77), (2, .int x78), (3, .int x79)]) (by decide) rfl ?_
        refine j_aload_n C dX10_ordersOf_192 rfl 1 rfl ?_
        refine j_get C ibX10 (ci := 8) 0 rfl rfl 18 (by decide) bfX10_46 (v := .ref h_t_back) rfl dX10_ordersOf_193 ?_
        refine j_iload_n C dX10_ordersOf_196 rfl 3 rfl ?_
        refine j_dup2_11 C dX10_ordersOf_197 rfl rfl ?_
        refine jl_inb h (fun b95 h => ?_)
        refine j_iald C 4 rfl b95 dX10_ordersOf_198 ?_
        refine j_iload C dX10_ordersOf_199 0 rfl ?_
        refine j_if_eq C (tgt := 217) dX10_ordersOf_201 (by decide) h (fun c96 h => ?_) (fun c96 h => ?_)
        · refine j_iconst C dX10_ordersOf_217 (v := (0 : Int32)) (by decide) ?_
          refine j_sub (lv' := [(0, .ref h_t), (1, .int x77), (2, .int x78), (3, .int x79)]) [1, 2, 3, 4] rfl ?_
          exact L218 x77 x78 x79 ((0 : Int32)) (m_t_back__82 x78.toNatClampNeg) x78 m_t_fore__81 m_t_back__82 h
        · refine j_aload_n C dX10_ordersOf_204 rfl 1 rfl ?_
          refine j_get C ibX10 (ci := 8) 0 rfl rfl 18 (by decide) bfX10_46 (v := .ref h_t_back) rfl dX10_ordersOf_205 ?_
          refine j_iload_n C dX10_ordersOf_208 rfl 3 rfl ?_
          refine j_iconst C dX10_ordersOf_209 (v := (1 : Int32)) (by decide) ?_
          refine j_iload_n C dX10_ordersOf_210 rfl 4 rfl ?_
          refine j_ishl C dX10_ordersOf_211 ?_
          refine j_ior C dX10_ordersOf_212 ?_
          refine jl_inb h (fun b105 h => ?_)
          refine j_iald C 4 rfl b105 dX10_ordersOf_213 ?_
          refine j_goto C dX10_ordersOf_214 (tgt := 218) (by decide) ?_
          refine j_sub (lv' := [(0, .ref h_t), (1, .int x77), (2, .int x78), (3, .int x79)]) [1, 2, 3, 4] rfl ?_
          exact L218 x77 x78 x79 (m_t_back__82 (x78 ||| (((1 : Int32)) <<< (x79 &&& 31))).toNatClampNeg) (m_t_back__82 x78.toNatClampNeg) x78 m_t_fore__81 m_t_back__82 h
      have L189 : ∀ (x67 : Int32) (x68 : Int32) (x69 : Int32) (m_t_fore__70 : Nat → Int32) (m_t_back__71 : Nat → Int32), fX10_ordersOf_189 F t_stones t_has_ t_slot_ k123 k145 x67 x68 x69 m_t_fore__70 m_t_back__71 = some r → JJ D X 5 0 0 189 [(0, .ref h_t), (1, .int x67), (2, .int x68), (3, .int x69)] [] [(h_t, .inr (8, [.int t_length, .ref h_t_text, .int t_at, .ref h_t_told, .ref h_t_touches, .ref h_t_has, .ref h_t_old, .ref h_t_beside, .int t_stones, .ref h_t_slot, .int t_kept, .int t_done, .int t_rows, .ref h_t_row, .ref h_t_free, .int t_frees, .ref h_t_worth, .ref h_t_fore, .ref h_t_back, .int t_fewest, .ref h_t_got])), (h_t_has, jI D 4 t_has_), (h_t_slot, jI D 240 t_slot_), (h_t_fore, jI D 512 m_t_fore__70), (h_t_back, jI D 512 m_t_back__71)] := by
        intro x67 x68 x69 m_t_fore__70 m_t_back__71 h
        unfold fX10_ordersOf_189 at h
        refine j_iconst C dX10_ordersOf_189 (v := (0 : Int32)) (by decide) ?_
        refine j_sub (lv' := [(0, .ref h_t), (1, .int x67), (2, .int x68), (3, .int x69)]) [0, 1, 2, 3] rfl ?_
        exact L190 x67 x68 x69 ((0 : Int32)) m_t_fore__70 m_t_back__71 h
      refine j_iload_n C dX10_ordersOf_145 rfl 3 rfl ?_
      refine j_aload_n C dX10_ordersOf_146 rfl 0 rfl ?_
      refine j_get C ibX10 (ci := 8) 0 rfl rfl 8 (by decide) bfX10_91 (v := .int t_stones) rfl dX10_ordersOf_147 ?_
      refine j_icmp_ge C (tgt := 226) dX10_ordersOf_150 (by decide) h (fun c63 h => ?_) (fun c63 h => ?_)
      · refine j_iinc C dX10_ordersOf_226 2 rfl (lv' := fun v64 => [(2, .int v64), (0, .ref h_t), (1, .int x37), (3, .int x39)]) (by decide) (fun _ => rfl) h (fun v64 h => ?_)
        refine j_goto C dX10_ordersOf_229 (tgt := 123) (by decide) ?_
        refine j_sub (lv' := [(0, .ref h_t), (1, .int x37), (2, .int v64)]) [1, 2, 0] rfl ?_
        exact i123 x37 v64 m_t_fore__40 m_t_back__41 h
      · refine j_iload_n C dX10_ordersOf_153 rfl 2 rfl ?_
        refine j_iload_n C dX10_ordersOf_154 rfl 1 rfl ?_
        refine j_iconst C dX10_ordersOf_155 (v := (-1 : Int32)) (by decide) ?_
        refine j_ixor C dX10_ordersOf_156 ?_
        refine j_iand C dX10_ordersOf_157 ?_
        refine j_if_ne C (tgt := 226) dX10_ordersOf_158 (by decide) h (fun c65 h => ?_) (fun c65 h => ?_)
        · refine j_iload_n C dX10_ordersOf_161 rfl 1 rfl ?_
          refine j_iload_n C dX10_ordersOf_162 rfl 2 rfl ?_
          refine j_iconst C dX10_ordersOf_163 (v := (-1 : Int32)) (by decide) ?_
          refine j_ixor C dX10_ordersOf_164 ?_
          refine j_iand C dX10_ordersOf_165 ?_
          refine j_iconst C dX10_ordersOf_166 (v := (1 : Int32)) (by decide) ?_
          refine j_iload_n C dX10_ordersOf_167 rfl 3 rfl ?_
          refine j_ishl C dX10_ordersOf_168 ?_
          refine j_iand C dX10_ordersOf_169 ?_
          refine j_if_eq C (tgt := 189) dX10_ordersOf_170 (by decide) h (fun c66 h => ?_) (fun c66 h => ?_)
          · refine j_sub (lv' := [(0, .ref h_t), (1, .int x37), (2, .int x38), (3, .int x39)]) [0, 1, 2, 3] rfl ?_
            exact L189 x37 x38 x39 m_t_fore__40 m_t_back__41 h
          · refine j_aload_n C dX10_ordersOf_173 rfl 0 rfl ?_
            refine j_iload_n C dX10_ordersOf_174 rfl 3 rfl ?_
            refine j_iload_n C dX10_ordersOf_175 rfl 2 rfl ?_
            obtain ⟨r72, q73, h⟩ := jl_bind h
            refine j_cS1 C (mX10_many (jlaunch X) D F x38 r72 q73) bmX10_162 btX10_many bzX10 bcX10_many hX10_many (rest := [.int x39, .ref h_t]) rfl (jroom_of rfl) [] [0, 1, 2, 3, 4] [0, 1, 2, 3, 4] (wr := [(h_t, .inr (8, [.int t_length, .ref h_t_text, .int t_at, .ref h_t_told, .ref h_t_touches, .ref h_t_has, .ref h_t_old, .ref h_t_beside, .int t_stones, .ref h_t_slot, .int t_kept, .int t_done, .int t_rows, .ref h_t_row, .ref h_t_free, .int t_frees, .ref h_t_worth, .ref h_t_fore, .ref h_t_back, .int t_fewest, .ref h_t_got])), (h_t_has, jI D 4 t_has_), (h_t_slot, jI D 240 t_slot_), (h_t_fore, jI D 512 m_t_fore__40), (h_t_back, jI D 512 m_t_back__41)]) (ws2 := [(h_t, .inr (8, [.int t_length, .ref h_t_text, .int t_at, .ref h_t_told, .ref h_t_touches, .ref h_t_has, .ref h_t_old, .ref h_t_beside, .int t_stones, .ref h_t_slot, .int t_kept, .int t_done, .int t_rows, .ref h_t_row, .ref h_t_free, .int t_frees, .ref h_t_worth, .ref h_t_fore, .ref h_t_back, .int t_fewest, .ref h_t_got])), (h_t_has, jI D 4 t_has_), (h_t_slot, jI D 240 t_slot_), (h_t_fore, jI D 512 m_t_fore__40), (h_t_back, jI D 512 m_t_back__41)]) rfl rfl rfl rfl rfl (Nat.le_of_ble_eq_true rfl) dX10_ordersOf_176 ?_
            obtain ⟨r74, q75, h⟩ := jl_bind h
            refine j_cV1 C (mX10_isBy (jlaunch X) D h_t h_t_text h_t_told h_t_touches h_t_has h_t_old h_t_beside h_t_slot h_t_row h_t_free h_t_worth h_t_fore h_t_back h_t_got t_length t_at t_stones t_kept t_done t_rows t_frees t_fewest t_has_ t_slot_ x39 r72 r74 q75) bmX10_187 biX10_isBy bsX10_isBy bzX10 bcX10_isBy rfl hX10_isBy (rest := []) rfl (jroom_of rfl) 0 (ci := 8) rfl rfl rfl [0, 1, 2] [3, 4] [2, 3, 4, 0, 1] (wr := [(h_t_fore, jI D 512 m_t_fore__40), (h_t_back, jI D 512 m_t_back__41)]) (ws2 := [(h_t, .inr (8, [.int t_length, .ref h_t_text, .int t_at, .ref h_t_told, .ref h_t_touches, .ref h_t_has, .ref h_t_old, .ref h_t_beside, .int t_stones, .ref h_t_slot, .int t_kept, .int t_done, .int t_rows, .ref h_t_row, .ref h_t_free, .int t_frees, .ref h_t_worth, .ref h_t_fore, .ref h_t_back, .int t_fewest, .ref h_t_got])), (h_t_has, jI D 4 t_has_), (h_t_slot, jI D 240 t_slot_), (h_t_fore, jI D 512 m_t_fore__40), (h_t_back, jI D 512 m_t_back__41)]) rfl rfl rfl rfl rfl (Nat.le_of_ble_eq_true rfl) dX10_ordersOf_179 ?_
            refine j_if_eq C (tgt := 189) dX10_ordersOf_182 (by decide) h (fun c76 h => ?_) (fun c76 h => ?_)
            · refine j_sub (lv' := [(0, .ref h_t), (1, .int x37), (2, .int x38), (3, .int x39)]) [0, 1, 2, 3] rfl ?_
              exact L189 x37 x38 x39 m_t_fore__40 m_t_back__41 h
            · refine j_iconst C dX10_ordersOf_185 (v := (1 : Int32)) (by decide) ?_
              refine j_goto C dX10_ordersOf_186 (tgt := 190) (by decide) ?_
              refine j_sub (lv' := [(0, .ref h_t), (1, .int x37), (2, .int x38), (3, .int x39)]) [0, 1, 2, 3] rfl ?_
              exact L190 x37 x38 x39 ((1 : Int32)) m_t_fore__40 m_t_back__41 h
        · refine j_iinc C dX10_ordersOf_226 2 rfl (lv' := fun v83 => [(2, .int v83), (0, .ref h_t), (1, .int x37), (3, .int x39)]) (by decide) (fun _ => rfl) h (fun v83 h => ?_)
          refine j_goto C dX10_ordersOf_229 (tgt := 123) (by decide) ?_
          refine j_sub (lv' := [(0, .ref h_t), (1, .int x37), (2, .int v83)]) [1, 2, 0] rfl ?_
          exact i123 x37 v83 m_t_fore__40 m_t_back__41 h
    have L142 : ∀ (x22 : Int32) (x23 : Int32) (s24 : Int32) (s25 : Int32) (m_t_fore__26 : Nat → Int32) (m_t_back__27 : Nat → Int32), fX10_ordersOf_142 F t_stones t_has_ t_slot_ k123 x22 x23 s24 s25 m_t_fore__26 m_t_back__27 = some r → JJ D X 5 0 0 142 [(0, .ref h_t), (1, .int x22), (2, .int x23)] [.int s24, .int s25, .ref h_t_back] [(h_t, .inr (8, [.int t_length, .ref h_t_text, .int t_at, .ref h_t_told, .ref h_t_touches, .ref h_t_has, .ref h_t_old, .ref h_t_beside, .int t_stones, .ref h_t_slot, .int t_kept, .int t_done, .int t_rows, .ref h_t_row, .ref h_t_free, .int t_frees, .ref h_t_worth, .ref h_t_fore, .ref h_t_back, .int t_fewest, .ref h_t_got])), (h_t_has, jI D 4 t_has_), (h_t_slot, jI D 240 t_slot_), (h_t_fore, jI D 512 m_t_fore__26), (h_t_back, jI D 512 m_t_back__27)] := by
      intro x22 x23 s24 s25 m_t_fore__26 m_t_back__27 h
      unfold fX10_ordersOf_142 at h
      refine jl_inb h (fun b35 h => ?_)
      refine j_iast C 4 rfl b35 dX10_ordersOf_142 (ws' := fun g36 => [(h_t, .inr (8, [.int t_length, .ref h_t_text, .int t_at, .ref h_t_told, .ref h_t_touches, .ref h_t_has, .ref h_t_old, .ref h_t_beside, .int t_stones, .ref h_t_slot, .int t_kept, .int t_done, .int t_rows, .ref h_t_row, .ref h_t_free, .int t_frees, .ref h_t_worth, .ref h_t_fore, .ref h_t_back, .int t_fewest, .ref h_t_got])), (h_t_has, jI D 4 t_has_), (h_t_slot, jI D 240 t_slot_), (h_t_fore, jI D 512 m_t_fore__26), (h_t_back, jI D 512 g36)]) (fun _ => rfl) h (fun g36 h => ?_)
      refine j_iconst C dX10_ordersOf_143 (v := (0 : Int32)) (by decide) ?_
      refine j_istore_nC C dX10_ordersOf_144 rfl (lv' := [(3, .int ((0 : Int32))), (0, .ref h_t), (1, .int x22), (2, .int x23)]) (by decide) rfl ?_
      refine j_sub (lv' := [(0, .ref h_t), (1, .int x22), (2, .int x23), (3, .int ((0 : Int32)))]) [1, 2, 3, 0] rfl ?_
      exact L145 x22 x23 ((0 : Int32)) m_t_fore__26 g36 h
    refine j_iload_n C dX10_ordersOf_123 rfl 2 rfl ?_
    refine j_if_lt C (tgt := 232) dX10_ordersOf_124 (by decide) h (fun c19 h => ?_) (fun c19 h => ?_)
    · refine j_aload_n C dX10_ordersOf_232 rfl 0 rfl ?_
      refine j_get C ibX10 (ci := 8) 0 rfl rfl 17 (by decide) bfX10_43 (v := .ref h_t_fore) rfl dX10_ordersOf_233 ?_
      refine j_iload_n C dX10_ordersOf_236 rfl 1 rfl ?_
      refine jl_inb h (fun b20 h => ?_)
      refine j_iald C 3 rfl b20 dX10_ordersOf_237 ?_
      exact j_iretR C (r := r) (rtf := fun r => (some (.int r.1))) (wff := fun r => (oX10_ordersOf D h_t h_t_text h_t_told h_t_touches h_t_has h_t_old h_t_beside h_t_slot h_t_row h_t_free h_t_worth h_t_fore h_t_back h_t_got t_length t_at t_stones t_kept t_done t_rows t_frees t_fewest t_has_ t_slot_ r)) E h rfl rfl dX10_ordersOf_238
    · refine j_aload_n C dX10_ordersOf_127 rfl 0 rfl ?_
      refine j_get C ibX10 (ci := 8) 0 rfl rfl 18 (by decide) bfX10_46 (v := .ref h_t_back) rfl dX10_ordersOf_128 ?_
      refine j_iload_n C dX10_ordersOf_131 rfl 2 rfl ?_
      refine j_iload_n C dX10_ordersOf_132 rfl 2 rfl ?_
      refine j_iload_n C dX10_ordersOf_133 rfl 1 rfl ?_
      refine j_icmp_ne C (tgt := 141) dX10_ordersOf_134 (by decide) h (fun c21 h => ?_) (fun c21 h => ?_)
      · refine j_iconst C dX10_ordersOf_137 (v := (1 : Int32)) (by decide) ?_
        refine j_goto C dX10_ordersOf_138 (tgt := 142) (by decide) ?_
        refine j_sub (lv' := [(0, .ref h_t), (1, .int x8), (2, .int x9)]) [0, 1, 2] rfl ?_
        exact L142 x8 x9 ((1 : Int32)) x9 m_t_fore__10 m_t_back__11 h
      · refine j_iconst C dX10_ordersOf_141 (v := (0 : Int32)) (by decide) ?_
        refine j_sub (lv' := [(0, .ref h_t), (1, .int x8), (2, .int x9)]) [0, 1, 2] rfl ?_
        exact L142 x8 x9 ((0 : Int32)) x9 m_t_fore__10 m_t_back__11 h
  have L7 : ∀ (x3 : Int32) (x4 : Int32) (m_t_fore__5 : Nat → Int32) (m_t_back__6 : Nat → Int32), lX10_ordersOf_7 F t_stones t_has_ t_slot_  F x3 x4 m_t_fore__5 m_t_back__6 = some r → JJ D X 5 0 0 7 [(0, .ref h_t), (1, .int x3), (2, .int x4)] [] [(h_t, .inr (8, [.int t_length, .ref h_t_text, .int t_at, .ref h_t_told, .ref h_t_touches, .ref h_t_has, .ref h_t_old, .ref h_t_beside, .int t_stones, .ref h_t_slot, .int t_kept, .int t_done, .int t_rows, .ref h_t_row, .ref h_t_free, .int t_frees, .ref h_t_worth, .ref h_t_fore, .ref h_t_back, .int t_fewest, .ref h_t_got])), (h_t_has, jI D 4 t_has_), (h_t_slot, jI D 240 t_slot_), (h_t_fore, jI D 512 m_t_fore__5), (h_t_back, jI D 512 m_t_back__6)] := by
    intro x3 x4 m_t_fore__5 m_t_back__6 h
    refine jl_ind4 (fun x3 x4 m_t_fore__5 m_t_back__6 => JJ D X 5 0 0 7 [(0, .ref h_t), (1, .int x3), (2, .int x4)] [] [(h_t, .inr (8, [.int t_length, .ref h_t_text, .int t_at, .ref h_t_told, .ref h_t_touches, .ref h_t_has, .ref h_t_old, .ref h_t_beside, .int t_stones, .ref h_t_slot, .int t_kept, .int t_done, .int t_rows, .ref h_t_row, .ref h_t_free, .int t_frees, .ref h_t_worth, .ref h_t_fore, .ref h_t_back, .int t_fewest, .ref h_t_got])), (h_t_has, jI D 4 t_has_), (h_t_slot, jI D 240 t_slot_), (h_t_fore, jI D 512 m_t_fore__5), (h_t_back, jI D 512 m_t_back__6)]) ?_ F x3 x4 m_t_fore__5 m_t_back__6 h
    clear h x3 x4 m_t_fore__5 m_t_back__6
    intro k7 i7 x3 x4 m_t_fore__5 m_t_back__6 h
    replace i7 : ∀ (x3 : Int32) (x4 : Int32) (m_t_fore__5 : Nat → Int32) (m_t_back__6 : Nat → Int32), k7 x3 x4 m_t_fore__5 m_t_back__6 = some r → JJ D X 5 0 0 7 [(0, .ref h_t), (1, .int x3), (2, .int x4)] [] [(h_t, .inr (8, [.int t_length, .ref h_t_text, .int t_at, .ref h_t_told, .ref h_t_touches, .ref h_t_has, .ref h_t_old, .ref h_t_beside, .int t_stones, .ref h_t_slot, .int t_kept, .int t_done, .int t_rows, .ref h_t_row, .ref h_t_free, .int t_frees, .ref h_t_worth, .ref h_t_fore, .ref h_t_back, .int t_fewest, .ref h_t_got])), (h_t_has, jI D 4 t_has_), (h_t_slot, jI D 240 t_slot_), (h_t_fore, jI D 512 m_t_fore__5), (h_t_back, jI D 512 m_t_back__6)] := i7
    show JJ D X 5 0 0 7 [(0, .ref h_t), (1, .int x3), (2, .int x4)] [] [(h_t, .inr (8, [.int t_length, .ref h_t_text, .int t_at, .ref h_t_told, .ref h_t_touches, .ref h_t_has, .ref h_t_old, .ref h_t_beside, .int t_stones, .ref h_t_slot, .int t_kept, .int t_done, .int t_rows, .ref h_t_row, .ref h_t_free, .int t_frees, .ref h_t_worth, .ref h_t_fore, .ref h_t_back, .int t_fewest, .ref h_t_got])), (h_t_has, jI D 4 t_has_), (h_t_slot, jI D 240 t_slot_), (h_t_fore, jI D 512 m_t_fore__5), (h_t_back, jI D 512 m_t_back__6)]
    unfold bX10_ordersOf_7 at h
    have L31 : ∀ (x30 : Int32) (x31 : Int32) (x32 : Int32) (m_t_fore__33 : Nat → Int32) (m_t_back__34 : Nat → Int32), lX10_ordersOf_31 F t_stones t_has_ t_slot_ k7 F x30 x31 x32 m_t_fore__33 m_t_back__34 = some r → JJ D X 5 0 0 31 [(0, .ref h_t), (1, .int x30), (2, .int x31), (3, .int x32)] [] [(h_t, .inr (8, [.int t_length, .ref h_t_text, .int t_at, .ref h_t_told, .ref h_t_touches, .ref h_t_has, .ref h_t_old, .ref h_t_beside, .int t_stones, .ref h_t_slot, .int t_kept, .int t_done, .int t_rows, .ref h_t_row, .ref h_t_free, .int t_frees, .ref h_t_worth, .ref h_t_fore, .ref h_t_back, .int t_fewest, .ref h_t_got])), (h_t_has, jI D 4 t_has_), (h_t_slot, jI D 240 t_slot_), (h_t_fore, jI D 512 m_t_fore__33), (h_t_back, jI D 512 m_t_back__34)] := by
      intro x30 x31 x32 m_t_fore__33 m_t_back__34 h
      refine jl_ind5 (fun x30 x31 x32 m_t_fore__33 m_t_back__34 => JJ D X 5 0 0 31 [(0, .ref h_t), (1, .int x30), (2, .int x31), (3, .int x32)] [] [(h_t, .inr (8, [.int t_length, .ref h_t_text, .int t_at, .ref h_t_told, .ref h_t_touches, .ref h_t_has, .ref h_t_old, .ref h_t_beside, .int t_stones, .ref h_t_slot, .int t_kept, .int t_done, .int t_rows, .ref h_t_row, .ref h_t_free, .int t_frees, .ref h_t_worth, .ref h_t_fore, .ref h_t_back, .int t_fewest, .ref h_t_got])), (h_t_has, jI D 4 t_has_), (h_t_slot, jI D 240 t_slot_), (h_t_fore, jI D 512 m_t_fore__33), (h_t_back, jI D 512 m_t_back__34)]) ?_ F x30 x31 x32 m_t_fore__33 m_t_back__34 h
      clear h x30 x31 x32 m_t_fore__33 m_t_back__34
      intro k31 i31 x30 x31 x32 m_t_fore__33 m_t_back__34 h
      replace i31 : ∀ (x30 : Int32) (x31 : Int32) (x32 : Int32) (m_t_fore__33 : Nat → Int32) (m_t_back__34 : Nat → Int32), k31 x30 x31 x32 m_t_fore__33 m_t_back__34 = some r → JJ D X 5 0 0 31 [(0, .ref h_t), (1, .int x30), (2, .int x31), (3, .int x32)] [] [(h_t, .inr (8, [.int t_length, .ref h_t_text, .int t_at, .ref h_t_told, .ref h_t_touches, .ref h_t_has, .ref h_t_old, .ref h_t_beside, .int t_stones, .ref h_t_slot, .int t_kept, .int t_done, .int t_rows, .ref h_t_row, .ref h_t_free, .int t_frees, .ref h_t_worth, .ref h_t_fore, .ref h_t_back, .int t_fewest, .ref h_t_got])), (h_t_has, jI D 4 t_has_), (h_t_slot, jI D 240 t_slot_), (h_t_fore, jI D 512 m_t_fore__33), (h_t_back, jI D 512 m_t_back__34)] := i31
      show JJ D X 5 0 0 31 [(0, .ref h_t), (1, .int x30), (2, .int x31), (3, .int x32)] [] [(h_t, .inr (8, [.int t_length, .ref h_t_text, .int t_at, .ref h_t_told, .ref h_t_touches, .ref h_t_has, .ref h_t_old, .ref h_t_beside, .int t_stones, .ref h_t_slot, .int t_kept, .int t_done, .int t_rows, .ref h_t_row, .ref h_t_free, .int t_frees, .ref h_t_worth, .ref h_t_fore, .ref h_t_back, .int t_fewest, .ref h_t_got])), (h_t_has, jI D 4 t_has_), (h_t_slot, jI D 240 t_slot_), (h_t_fore, jI D 512 m_t_fore__33), (h_t_back, jI D 512 m_t_back__34)]
      unfold bX10_ordersOf_31 at h
      have L105 : ∀ (x86 : Int32) (x87 : Int32) (x88 : Int32) (s89 : Int32) (s90 : Int32) (s91 : Int32) (m_t_fore__92 : Nat → Int32) (m_t_back__93 : Nat → Int32), fX10_ordersOf_105 F t_stones t_has_ t_slot_ k7 k31 x86 x87 x88 s89 s90 s91 m_t_fore__92 m_t_back__93 = some r → JJ D X 5 0 0 105 [(0, .ref h_t), (1, .int x86), (2, .int x87), (3, .int x88)] [.int s89, .int s90, .int s91, .ref h_t_fore] [(h_t, .inr (8, [.int t_length, .ref h_t_text, .int t_at, .ref h_t_told, .ref h_t_touches, .ref h_t_has, .ref h_t_old, .ref h_t_beside, .int t_stones, .ref h_t_slot, .int t_kept, .int t_done, .int t_rows, .ref h_t_row, .ref h_t_free, .int t_frees, .ref h_t_worth, .ref h_t_fore, .ref h_t_back, .int t_fewest, .ref h_t_got])), (h_t_has, jI D 4 t_has_), (h_t_slot, jI D 240 t_slot_), (h_t_fore, jI D 512 m_t_fore__92), (h_t_back, jI D 512 m_t_back__93)] := by
        intro x86 x87 x88 s89 s90 s91 m_t_fore__92 m_t_back__93 h
        unfold fX10_ordersOf_105 at h
        refine j_iadd C dX10_ordersOf_105 ?_
        refine jl_inb h (fun b106 h => ?_)
        refine j_iast C 3 rfl b106 dX10_ordersOf_106 (ws' := fun g107 => [(h_t, .inr (8, [.int t_length, .ref h_t_text, .int t_at, .ref h_t_told, .ref h_t_touches, .ref h_t_has, .ref h_t_old, .ref h_t_beside, .int t_stones, .ref h_t_slot, .int t_kept, .int t_done, .int t_rows, .ref h_t_row, .ref h_t_free, .int t_frees, .ref h_t_worth, .ref h_t_fore, .ref h_t_back, .int t_fewest, .ref h_t_got])), (h_t_has, jI D 4 t_has_), (h_t_slot, jI D 240 t_slot_), (h_t_fore, jI D 512 g107), (h_t_back, jI D 512 m_t_back__93)]) (fun _ => rfl) h (fun g107 h => ?_)
        refine j_iinc C dX10_ordersOf_107 3 rfl (lv' := fun v108 => [(3, .int v108), (0, .ref h_t), (1, .int x86), (2, .int x87)]) (by decide) (fun _ => rfl) h (fun v108 h => ?_)
        refine j_goto C dX10_ordersOf_110 (tgt := 31) (by decide) ?_
        refine j_sub (lv' := [(0, .ref h_t), (1, .int x86), (2, .int x87), (3, .int v108)]) [1, 2, 3, 0] rfl ?_
        exact i31 x86 x87 v108 g107 m_t_back__93 h
      have L75 : ∀ (x56 : Int32) (x57 : Int32) (x58 : Int32) (s59 : Int32) (m_t_fore__60 : Nat → Int32) (m_t_back__61 : Nat → Int32), fX10_ordersOf_75 F t_stones t_has_ t_slot_ k7 k31 x56 x57 x58 s59 m_t_fore__60 m_t_back__61 = some r → JJ D X 5 0 0 75 [(0, .ref h_t), (1, .int x56), (2, .int x57), (3, .int x58)] [.int s59] [(h_t, .inr (8, [.int t_length, .ref h_t_text, .int t_at, .ref h_t_told, .ref h_t_touches, .ref h_t_has, .ref h_t_old, .ref h_t_beside, .int t_stones, .ref h_t_slot, .int t_kept, .int t_done, .int t_rows, .ref h_t_row, .ref h_t_free, .int t_frees, .ref h_t_worth, .ref h_t_fore, .ref h_t_back, .int t_fewest, .ref h_t_got])), (h_t_has, jI D 4 t_has_), (h_t_slot, jI D 240 t_slot_), (h_t_fore, jI D 512 m_t_fore__60), (h_t_back, jI D 512 m_t_back__61)] := by
        intro x56 x57 x58 s59 m_t_fore__60 m_t_back__61 h
        unfold fX10_ordersOf_75 at h
        refine j_istoreC C dX10_ordersOf_75 (lv' := [(4, .int s59), (0, .ref h_t), (1, .int x56), (2, .int x57), (3, .int x58)]) (by decide) rfl ?_
        refine j_aload_n C dX10_ordersOf_77 rfl 1 rfl ?_
        refine j_get C ibX10 (ci := 8) 0 rfl rfl 17 (by decide) bfX10_43 (v := .ref h_t_fore) rfl dX10_ordersOf_78 ?_
        refine j_iload_n C dX10_ordersOf_81 rfl 3 rfl ?_
        refine j_dup2_11 C dX10_ordersOf_82 rfl rfl ?_
        refine jl_inb h (fun b84 h => ?_)
        refine j_iald C 3 rfl b84 dX10_ordersOf_83 ?_
        refine j_iload C dX10_ordersOf_84 0 rfl ?_
        refine j_if_eq C (tgt := 104) dX10_ordersOf_86 (by decide) h (fun c85 h => ?_) (fun c85 h => ?_)
        · refine j_iconst C dX10_ordersOf_104 (v := (0 : Int32)) (by decide) ?_
          refine j_sub (lv' := [(0, .ref h_t), (1, .int x56), (2, .int x57), (3, .int x58)]) [1, 2, 3, 4] rfl ?_
          exact L105 x56 x57 x58 ((0 : Int32)) (m_t_fore__60 x57.toNatClampNeg) x57 m_t_fore__60 m_t_back__61 h
        · refine j_aload_n C dX10_ordersOf_89 rfl 1 rfl ?_
          refine j_get C ibX10 (ci := 8) 0 rfl rfl 17 (by decide) bfX10_43 (v := .ref h_t_fore) rfl dX10_ordersOf_90 ?_
          refine j_iload_n C dX10_ordersOf_93 rfl 3 rfl ?_
          refine j_iconst C dX10_ordersOf_94 (v := (1 : Int32)) (by decide) ?_
          refine j_iload_n C dX10_ordersOf_95 rfl 4 rfl ?_
          refine j_ishl C dX10_ordersOf_96 ?_
          refine j_iconst C dX10_ordersOf_97 (v := (-1 : Int32)) (by decide) ?_
          refine j_ixor C dX10_ordersOf_98 ?_
          refine j_iand C dX10_ordersOf_99 ?_
          refine jl_inb h (fun b94 h => ?_)
          refine j_iald C 3 rfl b94 dX10_ordersOf_100 ?_
          refine j_goto C dX10_ordersOf_101 (tgt := 105) (by decide) ?_
          refine j_sub (lv' := [(0, .ref h_t), (1, .int x56), (2, .int x57), (3, .int x58)]) [1, 2, 3, 4] rfl ?_
          exact L105 x56 x57 x58 (m_t_fore__60 (x57 &&& ((((1 : Int32)) <<< (x58 &&& 31)) ^^^ ((-1 : Int32)))).toNatClampNeg) (m_t_fore__60 x57.toNatClampNeg) x57 m_t_fore__60 m_t_back__61 h
      have L74 : ∀ (x51 : Int32) (x52 : Int32) (x53 : Int32) (m_t_fore__54 : Nat → Int32) (m_t_back__55 : Nat → Int32), fX10_ordersOf_74 F t_stones t_has_ t_slot_ k7 k31 x51 x52 x53 m_t_fore__54 m_t_back__55 = some r → JJ D X 5 0 0 74 [(0, .ref h_t), (1, .int x51), (2, .int x52), (3, .int x53)] [] [(h_t, .inr (8, [.int t_length, .ref h_t_text, .int t_at, .ref h_t_told, .ref h_t_touches, .ref h_t_has, .ref h_t_old, .ref h_t_beside, .int t_stones, .ref h_t_slot, .int t_kept, .int t_done, .int t_rows, .ref h_t_row, .ref h_t_free, .int t_frees, .ref h_t_worth, .ref h_t_fore, .ref h_t_back, .int t_fewest, .ref h_t_got])), (h_t_has, jI D 4 t_has_), (h_t_slot, jI D 240 t_slot_), (h_t_fore, jI D 512 m_t_fore__54), (h_t_back, jI D 512 m_t_back__55)] := by
        intro x51 x52 x53 m_t_fore__54 m_t_back__55 h
        unfold fX10_ordersOf_74 at h
        refine j_iconst C dX10_ordersOf_74 (v := (0 : Int32)) (by decide) ?_
        refine j_sub (lv' := [(0, .ref h_t), (1, .int x51), (2, .int x52), (3, .int x53)]) [0, 1, 2, 3] rfl ?_
        exact L75 x51 x52 x53 ((0 : Int32)) m_t_fore__54 m_t_back__55 h
      refine j_iload_n C dX10_ordersOf_31 rfl 3 rfl ?_
      refine j_aload_n C dX10_ordersOf_32 rfl 0 rfl ?_
      refine j_get C ibX10 (ci := 8) 0 rfl rfl 8 (by decide) bfX10_91 (v := .int t_stones) rfl dX10_ordersOf_33 ?_
      refine j_icmp_ge C (tgt := 113) dX10_ordersOf_36 (by decide) h (fun c42 h => ?_) (fun c42 h => ?_)
      · refine j_iinc C dX10_ordersOf_113 2 rfl (lv' := fun v43 => [(2, .int v43), (0, .ref h_t), (1, .int x30), (3, .int x32)]) (by decide) (fun _ => rfl) h (fun v43 h => ?_)
        refine j_goto C dX10_ordersOf_116 (tgt := 7) (by decide) ?_
        refine j_sub (lv' := [(0, .ref h_t), (1, .int x30), (2, .int v43)]) [1, 2, 0] rfl ?_
        exact i7 x30 v43 m_t_fore__33 m_t_back__34 h
      · refine j_iload_n C dX10_ordersOf_39 rfl 2 rfl ?_
        refine j_iload_n C dX10_ordersOf_40 rfl 1 rfl ?_
        refine j_iconst C dX10_ordersOf_41 (v := (-1 : Int32)) (by decide) ?_
        refine j_ixor C dX10_ordersOf_42 ?_
        refine j_iand C dX10_ordersOf_43 ?_
        refine j_if_ne C (tgt := 113) dX10_ordersOf_44 (by decide) h (fun c44 h => ?_) (fun c44 h => ?_)
        · refine j_iload_n C dX10_ordersOf_47 rfl 2 rfl ?_
          refine j_iload_n C dX10_ordersOf_48 rfl 3 rfl ?_
          refine j_ishr C dX10_ordersOf_49 ?_
          refine j_iconst C dX10_ordersOf_50 (v := (1 : Int32)) (by decide) ?_
          refine j_iand C dX10_ordersOf_51 ?_
          refine j_iconst C dX10_ordersOf_52 (v := (1 : Int32)) (by decide) ?_
          refine j_icmp_ne C (tgt := 74) dX10_ordersOf_53 (by decide) h (fun c45 h => ?_) (fun c45 h => ?_)
          · refine j_aload_n C dX10_ordersOf_56 rfl 0 rfl ?_
            refine j_iload_n C dX10_ordersOf_57 rfl 3 rfl ?_
            refine j_iload_n C dX10_ordersOf_58 rfl 2 rfl ?_
            obtain ⟨r46, q47, h⟩ := jl_bind h
            refine j_cS1 C (mX10_many (jlaunch X) D F x31 r46 q47) bmX10_162 btX10_many bzX10 bcX10_many hX10_many (rest := [.int x32, .ref h_t]) rfl (jroom_of rfl) [] [0, 1, 2, 3, 4] [0, 1, 2, 3, 4] (wr := [(h_t, .inr (8, [.int t_length, .ref h_t_text, .int t_at, .ref h_t_told, .ref h_t_touches, .ref h_t_has, .ref h_t_old, .ref h_t_beside, .int t_stones, .ref h_t_slot, .int t_kept, .int t_done, .int t_rows, .ref h_t_row, .ref h_t_free, .int t_frees, .ref h_t_worth, .ref h_t_fore, .ref h_t_back, .int t_fewest, .ref h_t_got])), (h_t_has, jI D 4 t_has_), (h_t_slot, jI D 240 t_slot_), (h_t_fore, jI D 512 m_t_fore__33), (h_t_back, jI D 512 m_t_back__34)]) (ws2 := [(h_t, .inr (8, [.int t_length, .ref h_t_text, .int t_at, .ref h_t_told, .ref h_t_touches, .ref h_t_has, .ref h_t_old, .ref h_t_beside, .int t_stones, .ref h_t_slot, .int t_kept, .int t_done, .int t_rows, .ref h_t_row, .ref h_t_free, .int t_frees, .ref h_t_worth, .ref h_t_fore, .ref h_t_back, .int t_fewest, .ref h_t_got])), (h_t_has, jI D 4 t_has_), (h_t_slot, jI D 240 t_slot_), (h_t_fore, jI D 512 m_t_fore__33), (h_t_back, jI D 512 m_t_back__34)]) rfl rfl rfl rfl rfl (Nat.le_of_ble_eq_true rfl) dX10_ordersOf_59 ?_
            refine j_iconst C dX10_ordersOf_62 (v := (1 : Int32)) (by decide) ?_
            refine j_isub C dX10_ordersOf_63 ?_
            obtain ⟨r48, q49, h⟩ := jl_bind h
            refine j_cV1 C (mX10_isBy (jlaunch X) D h_t h_t_text h_t_told h_t_touches h_t_has h_t_old h_t_beside h_t_slot h_t_row h_t_free h_t_worth h_t_fore h_t_back h_t_got t_length t_at t_stones t_kept t_done t_rows t_frees t_fewest t_has_ t_slot_ x32 (r46 - ((1 : Int32))) r48 q49) bmX10_187 biX10_isBy bsX10_isBy bzX10 bcX10_isBy rfl hX10_isBy (rest := []) rfl (jroom_of rfl) 0 (ci := 8) rfl rfl rfl [0, 1, 2] [3, 4] [2, 3, 4, 0, 1] (wr := [(h_t_fore, jI D 512 m_t_fore__33), (h_t_back, jI D 512 m_t_back__34)]) (ws2 := [(h_t, .inr (8, [.int t_length, .ref h_t_text, .int t_at, .ref h_t_told, .ref h_t_touches, .ref h_t_has, .ref h_t_old, .ref h_t_beside, .int t_stones, .ref h_t_slot, .int t_kept, .int t_done, .int t_rows, .ref h_t_row, .ref h_t_free, .int t_frees, .ref h_t_worth, .ref h_t_fore, .ref h_t_back, .int t_fewest, .ref h_t_got])), (h_t_has, jI D 4 t_has_), (h_t_slot, jI D 240 t_slot_), (h_t_fore, jI D 512 m_t_fore__33), (h_t_back, jI D 512 m_t_back__34)]) rfl rfl rfl rfl rfl (Nat.le_of_ble_eq_true rfl) dX10_ordersOf_64 ?_
            refine j_if_eq C (tgt := 74) dX10_ordersOf_67 (by decide) h (fun c50 h => ?_) (fun c50 h => ?_)
            · refine j_sub (lv' := [(0, .ref h_t), (1, .int x30), (2, .int x31), (3, .int x32)]) [0, 1, 2, 3] rfl ?_
              exact L74 x30 x31 x32 m_t_fore__33 m_t_back__34 h
            · refine j_iconst C dX10_ordersOf_70 (v := (1 : Int32)) (by decide) ?_
              refine j_goto C dX10_ordersOf_71 (tgt := 75) (by decide) ?_
              refine j_sub (lv' := [(0, .ref h_t), (1, .int x30), (2, .int x31), (3, .int x32)]) [0, 1, 2, 3] rfl ?_
              exact L75 x30 x31 x32 ((1 : Int32)) m_t_fore__33 m_t_back__34 h
          · refine j_sub (lv' := [(0, .ref h_t), (1, .int x30), (2, .int x31), (3, .int x32)]) [0, 1, 2, 3] rfl ?_
            exact L74 x30 x31 x32 m_t_fore__33 m_t_back__34 h
        · refine j_iinc C dX10_ordersOf_113 2 rfl (lv' := fun v62 => [(2, .int v62), (0, .ref h_t), (1, .int x30), (3, .int x32)]) (by decide) (fun _ => rfl) h (fun v62 h => ?_)
          refine j_goto C dX10_ordersOf_116 (tgt := 7) (by decide) ?_
          refine j_sub (lv' := [(0, .ref h_t), (1, .int x30), (2, .int v62)]) [1, 2, 0] rfl ?_
          exact i7 x30 v62 m_t_fore__33 m_t_back__34 h
    have L28 : ∀ (x13 : Int32) (x14 : Int32) (s15 : Int32) (s16 : Int32) (m_t_fore__17 : Nat → Int32) (m_t_back__18 : Nat → Int32), fX10_ordersOf_28 F t_stones t_has_ t_slot_ k7 x13 x14 s15 s16 m_t_fore__17 m_t_back__18 = some r → JJ D X 5 0 0 28 [(0, .ref h_t), (1, .int x13), (2, .int x14)] [.int s15, .int s16, .ref h_t_fore] [(h_t, .inr (8, [.int t_length, .ref h_t_text, .int t_at, .ref h_t_told, .ref h_t_touches, .ref h_t_has, .ref h_t_old, .ref h_t_beside, .int t_stones, .ref h_t_slot, .int t_kept, .int t_done, .int t_rows, .ref h_t_row, .ref h_t_free, .int t_frees, .ref h_t_worth, .ref h_t_fore, .ref h_t_back, .int t_fewest, .ref h_t_got])), (h_t_has, jI D 4 t_has_), (h_t_slot, jI D 240 t_slot_), (h_t_fore, jI D 512 m_t_fore__17), (h_t_back, jI D 512 m_t_back__18)] := by
      intro x13 x14 s15 s16 m_t_fore__17 m_t_back__18 h
      unfold fX10_ordersOf_28 at h
      refine jl_inb h (fun b28 h => ?_)
      refine j_iast C 3 rfl b28 dX10_ordersOf_28 (ws' := fun g29 => [(h_t, .inr (8, [.int t_length, .ref h_t_text, .int t_at, .ref h_t_told, .ref h_t_touches, .ref h_t_has, .ref h_t_old, .ref h_t_beside, .int t_stones, .ref h_t_slot, .int t_kept, .int t_done, .int t_rows, .ref h_t_row, .ref h_t_free, .int t_frees, .ref h_t_worth, .ref h_t_fore, .ref h_t_back, .int t_fewest, .ref h_t_got])), (h_t_has, jI D 4 t_has_), (h_t_slot, jI D 240 t_slot_), (h_t_fore, jI D 512 g29), (h_t_back, jI D 512 m_t_back__18)]) (fun _ => rfl) h (fun g29 h => ?_)
      refine j_iconst C dX10_ordersOf_29 (v := (0 : Int32)) (by decide) ?_
      refine j_istore_nC C dX10_ordersOf_30 rfl (lv' := [(3, .int ((0 : Int32))), (0, .ref h_t), (1, .int x13), (2, .int x14)]) (by decide) rfl ?_
      refine j_sub (lv' := [(0, .ref h_t), (1, .int x13), (2, .int x14), (3, .int ((0 : Int32)))]) [1, 2, 3, 0] rfl ?_
      exact L31 x13 x14 ((0 : Int32)) g29 m_t_back__18 h
    refine j_iload_n C dX10_ordersOf_7 rfl 2 rfl ?_
    refine j_sipush C dX10_ordersOf_8 (v := (512 : Int32)) (by decide) ?_
    refine j_icmp_ge C (tgt := 119) dX10_ordersOf_11 (by decide) h (fun c7 h => ?_) (fun c7 h => ?_)
    · refine j_sipush C dX10_ordersOf_119 (v := (511 : Int32)) (by decide) ?_
      refine j_istore_nC C dX10_ordersOf_122 rfl (lv' := [(2, .int ((511 : Int32))), (0, .ref h_t), (1, .int x3)]) (by decide) rfl ?_
      refine j_sub (lv' := [(0, .ref h_t), (1, .int x3), (2, .int ((511 : Int32)))]) [1, 2, 0] rfl ?_
      exact L123 x3 ((511 : Int32)) m_t_fore__5 m_t_back__6 h
    · refine j_aload_n C dX10_ordersOf_14 rfl 0 rfl ?_
      refine j_get C ibX10 (ci := 8) 0 rfl rfl 17 (by decide) bfX10_43 (v := .ref h_t_fore) rfl dX10_ordersOf_15 ?_
      refine j_iload_n C dX10_ordersOf_18 rfl 2 rfl ?_
      refine j_iload_n C dX10_ordersOf_19 rfl 2 rfl ?_
      refine j_if_ne C (tgt := 27) dX10_ordersOf_20 (by decide) h (fun c12 h => ?_) (fun c12 h => ?_)
      · refine j_iconst C dX10_ordersOf_23 (v := (1 : Int32)) (by decide) ?_
        refine j_goto C dX10_ordersOf_24 (tgt := 28) (by decide) ?_
        refine j_sub (lv' := [(0, .ref h_t), (1, .int x3), (2, .int x4)]) [0, 1, 2] rfl ?_
        exact L28 x3 x4 ((1 : Int32)) x4 m_t_fore__5 m_t_back__6 h
      · refine j_iconst C dX10_ordersOf_27 (v := (0 : Int32)) (by decide) ?_
        refine j_sub (lv' := [(0, .ref h_t), (1, .int x3), (2, .int x4)]) [0, 1, 2] rfl ?_
        exact L28 x3 x4 ((0 : Int32)) x4 m_t_fore__5 m_t_back__6 h
  refine j_aload_n C dX10_ordersOf_0 rfl 0 rfl ?_
  obtain ⟨r1, q2, h⟩ := jl_bind h
  refine j_cV1 C (mX10_fresh (jlaunch X) D F h_t h_t_text h_t_told h_t_touches h_t_has h_t_old h_t_beside h_t_slot h_t_row h_t_free h_t_worth h_t_fore h_t_back h_t_got t_length t_at t_stones t_kept t_done t_rows t_frees t_fewest t_slot_ r1 q2) bmX10_168 biX10_fresh bsX10_fresh bzX10 bcX10_fresh rfl hX10_fresh (rest := []) rfl (jroom_of rfl) 0 (ci := 8) rfl rfl rfl [0, 2] [1, 3, 4] [3, 0, 4, 1, 2] (wr := [(h_t_has, jI D 4 t_has_), (h_t_fore, jI D 512 t_fore_), (h_t_back, jI D 512 t_back_)]) (ws2 := [(h_t, .inr (8, [.int t_length, .ref h_t_text, .int t_at, .ref h_t_told, .ref h_t_touches, .ref h_t_has, .ref h_t_old, .ref h_t_beside, .int t_stones, .ref h_t_slot, .int t_kept, .int t_done, .int t_rows, .ref h_t_row, .ref h_t_free, .int t_frees, .ref h_t_worth, .ref h_t_fore, .ref h_t_back, .int t_fewest, .ref h_t_got])), (h_t_has, jI D 4 t_has_), (h_t_slot, jI D 240 t_slot_), (h_t_fore, jI D 512 t_fore_), (h_t_back, jI D 512 t_back_)]) rfl rfl rfl rfl rfl (Nat.le_of_ble_eq_true rfl) dX10_ordersOf_1 ?_
  refine j_istore_nC C dX10_ordersOf_4 rfl (lv' := [(1, .int r1), (0, .ref h_t)]) (by decide) rfl ?_
  refine j_iconst C dX10_ordersOf_5 (v := (0 : Int32)) (by decide) ?_
  refine j_istore_nC C dX10_ordersOf_6 rfl (lv' := [(2, .int ((0 : Int32))), (1, .int r1), (0, .ref h_t)]) (by decide) rfl ?_
  refine j_sub (lv' := [(0, .ref h_t), (1, .int r1), (2, .int ((0 : Int32)))]) [2, 1, 0] rfl ?_
  exact L7 r1 ((0 : Int32)) t_fore_ t_back_ h
theorem dX10_orders_0 : decode cX10_orders 0 = .ok (.aload_n 0, 1) := by decide +kernel
theorem dX10_orders_1 : decode cX10_orders 1 = .ok (.invokevirtual 190, 3) := by decide +kernel
theorem dX10_orders_4 : decode cX10_orders 4 = .ok (.ireturn, 1) := by decide +kernel
def fX10_orders (F : Nat) (t_stones : Int32) (t_has_ : Nat → Int32) (t_slot_ : Nat → Int32) (t_fore_ : Nat → Int32) (t_back_ : Nat → Int32) : Option (Int32 × (Nat → Int32) × (Nat → Int32)) :=
((fX10_ordersOf F t_stones t_has_ t_slot_ t_fore_ t_back_).bind fun r1 =>
(some (r1.1, r1.2.1, r1.2.2)))
def oX10_orders (D : jv_D) (h_t : Nat) (h_t_text : Nat) (h_t_told : Nat) (h_t_touches : Nat) (h_t_has : Nat) (h_t_old : Nat) (h_t_beside : Nat) (h_t_slot : Nat) (h_t_row : Nat) (h_t_free : Nat) (h_t_worth : Nat) (h_t_fore : Nat) (h_t_back : Nat) (h_t_got : Nat) (t_length : Int32) (t_at : Int32) (t_stones : Int32) (t_kept : Int32) (t_done : Int32) (t_rows : Int32) (t_frees : Int32) (t_fewest : Int32) (t_has_ : Nat → Int32) (t_slot_ : Nat → Int32) (r : Int32 × (Nat → Int32) × (Nat → Int32)) : va_W := [(h_t, .inr (8, [.int t_length, .ref h_t_text, .int t_at, .ref h_t_told, .ref h_t_touches, .ref h_t_has, .ref h_t_old, .ref h_t_beside, .int t_stones, .ref h_t_slot, .int t_kept, .int t_done, .int t_rows, .ref h_t_row, .ref h_t_free, .int t_frees, .ref h_t_worth, .ref h_t_fore, .ref h_t_back, .int t_fewest, .ref h_t_got])), (h_t_has, jI D 4 t_has_), (h_t_slot, jI D 240 t_slot_), (h_t_fore, jI D 512 r.2.1), (h_t_back, jI D 512 r.2.2)]
set_option maxHeartbeats 40000000 in
set_option maxRecDepth 100000 in
theorem mX10_orders (l : Launch) (D : jv_D) (F : Nat) (h_t : Nat) (h_t_text : Nat) (h_t_told : Nat) (h_t_touches : Nat) (h_t_has : Nat) (h_t_old : Nat) (h_t_beside : Nat) (h_t_slot : Nat) (h_t_row : Nat) (h_t_free : Nat) (h_t_worth : Nat) (h_t_fore : Nat) (h_t_back : Nat) (h_t_got : Nat) (t_length : Int32) (t_at : Int32) (t_stones : Int32) (t_kept : Int32) (t_done : Int32) (t_rows : Int32) (t_frees : Int32) (t_fewest : Int32) (t_has_ : Nat → Int32) (t_slot_ : Nat → Int32) (t_fore_ : Nat → Int32) (t_back_ : Nat → Int32) (r : Int32 × (Nat → Int32) × (Nat → Int32)) (h : fX10_orders F t_stones t_has_ t_slot_ t_fore_ t_back_ = some r) : MM l yX10_orders (jW yX10_orders cX10_orders 1 (some .int)) ({ frames := 2, cells := 0, slots := 0, locals := 46 }) D [.ref h_t] [(h_t, .inr (8, [.int t_length, .ref h_t_text, .int t_at, .ref h_t_told, .ref h_t_touches, .ref h_t_has, .ref h_t_old, .ref h_t_beside, .int t_stones, .ref h_t_slot, .int t_kept, .int t_done, .int t_rows, .ref h_t_row, .ref h_t_free, .int t_frees, .ref h_t_worth, .ref h_t_fore, .ref h_t_back, .int t_fewest, .ref h_t_got])), (h_t_has, jI D 4 t_has_), (h_t_slot, jI D 240 t_slot_), (h_t_fore, jI D 512 t_fore_), (h_t_back, jI D 512 t_back_)] (some (.int r.1)) (oX10_orders D h_t h_t_text h_t_told h_t_touches h_t_has h_t_old h_t_beside h_t_slot h_t_row h_t_free h_t_worth h_t_fore h_t_back h_t_got t_length t_at t_stones t_kept t_done t_rows t_frees t_fewest t_has_ t_slot_ r) := by
  refine mn_of hpX10_orders (Nat.le_of_ble_eq_true rfl) ?_
  intro X hXl C E0 hN
  subst hXl
  replace C : JC D X 1 RX10 cX10_orders ({ frames := 2, cells := 0, slots := 0, locals := 46 }) := C
  have E : JE D X 0 0 (some .int) (fun _ : Unit => (some (.int r.1))) (fun _ : Unit => (oX10_orders D h_t h_t_text h_t_told h_t_touches h_t_has h_t_old h_t_beside h_t_slot h_t_row h_t_free h_t_worth h_t_fore h_t_back h_t_got t_length t_at t_stones t_kept t_done t_rows t_frees t_fewest t_has_ t_slot_ r)) := E0 0 0 rfl rfl
  clear E0 hN
  show JJ D X 1 0 0 0 [(0, .ref h_t)] [] [(h_t, .inr (8, [.int t_length, .ref h_t_text, .int t_at, .ref h_t_told, .ref h_t_touches, .ref h_t_has, .ref h_t_old, .ref h_t_beside, .int t_stones, .ref h_t_slot, .int t_kept, .int t_done, .int t_rows, .ref h_t_row, .ref h_t_free, .int t_frees, .ref h_t_worth, .ref h_t_fore, .ref h_t_back, .int t_fewest, .ref h_t_got])), (h_t_has, jI D 4 t_has_), (h_t_slot, jI D 240 t_slot_), (h_t_fore, jI D 512 t_fore_), (h_t_back, jI D 512 t_back_)]
  unfold fX10_orders at h
  refine j_aload_n C dX10_orders_0 rfl 0 rfl ?_
  obtain ⟨r1, q2, h⟩ := jl_bind h
  refine j_cV1 C (mX10_ordersOf (jlaunch X) D F h_t h_t_text h_t_told h_t_touches h_t_has h_t_old h_t_beside h_t_slot h_t_row h_t_free h_t_worth h_t_fore h_t_back h_t_got t_length t_at t_stones t_kept t_done t_rows t_frees t_fewest t_has_ t_slot_ t_fore_ t_back_ r1 q2) bmX10_190 biX10_ordersOf bsX10_ordersOf bzX10 bcX10_ordersOf rfl hX10_ordersOf (rest := []) rfl (jroom_of rfl) 0 (ci := 8) rfl rfl rfl [0, 1, 2, 3, 4] [] [0, 1, 2, 3, 4] (wr := []) (ws2 := [(h_t, .inr (8, [.int t_length, .ref h_t_text, .int t_at, .ref h_t_told, .ref h_t_touches, .ref h_t_has, .ref h_t_old, .ref h_t_beside, .int t_stones, .ref h_t_slot, .int t_kept, .int t_done, .int t_rows, .ref h_t_row, .ref h_t_free, .int t_frees, .ref h_t_worth, .ref h_t_fore, .ref h_t_back, .int t_fewest, .ref h_t_got])), (h_t_has, jI D 4 t_has_), (h_t_slot, jI D 240 t_slot_), (h_t_fore, jI D 512 r1.2.1), (h_t_back, jI D 512 r1.2.2)]) rfl rfl rfl rfl rfl (Nat.le_of_ble_eq_true rfl) dX10_orders_1 ?_
  exact j_iretR C (r := r) (rtf := fun r => (some (.int r.1))) (wff := fun r => (oX10_orders D h_t h_t_text h_t_told h_t_touches h_t_has h_t_old h_t_beside h_t_slot h_t_row h_t_free h_t_worth h_t_fore h_t_back h_t_got t_length t_at t_stones t_kept t_done t_rows t_frees t_fewest t_has_ t_slot_ r)) E h rfl rfl dX10_orders_4
