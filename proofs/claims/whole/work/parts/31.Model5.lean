theorem dX10_only_0 : decode cX10_only 0 = .ok (.iload_n 1, 1) := by decide +kernel
theorem dX10_only_1 : decode cX10_only 1 = .ok (.i2l, 1) := by decide +kernel
theorem dX10_only_2 : decode cX10_only 2 = .ok (.lconst 0, 1) := by decide +kernel
theorem dX10_only_3 : decode cX10_only 3 = .ok (.lconst 1, 1) := by decide +kernel
theorem dX10_only_4 : decode cX10_only 4 = .ok (.invokestatic 60, 3) := by decide +kernel
theorem dX10_only_7 : decode cX10_only 7 = .ok (.ifCond .ne 5, 3) := by decide +kernel
theorem dX10_only_10 : decode cX10_only 10 = .ok (.iconst (-1), 1) := by decide +kernel
theorem dX10_only_11 : decode cX10_only 11 = .ok (.ireturn, 1) := by decide +kernel
theorem dX10_only_12 : decode cX10_only 12 = .ok (.aload_n 0, 1) := by decide +kernel
theorem dX10_only_13 : decode cX10_only 13 = .ok (.invokevirtual 168, 3) := by decide +kernel
theorem dX10_only_16 : decode cX10_only 16 = .ok (.istore_n 2, 1) := by decide +kernel
theorem dX10_only_17 : decode cX10_only 17 = .ok (.aload_n 0, 1) := by decide +kernel
theorem dX10_only_18 : decode cX10_only 18 = .ok (.invokevirtual 190, 3) := by decide +kernel
theorem dX10_only_21 : decode cX10_only 21 = .ok (.ifCond .ne 5, 3) := by decide +kernel
theorem dX10_only_24 : decode cX10_only 24 = .ok (.iconst 0, 1) := by decide +kernel
theorem dX10_only_25 : decode cX10_only 25 = .ok (.ireturn, 1) := by decide +kernel
theorem dX10_only_26 : decode cX10_only 26 = .ok (.iload_n 2, 1) := by decide +kernel
theorem dX10_only_27 : decode cX10_only 27 = .ok (.istore_n 3, 1) := by decide +kernel
theorem dX10_only_28 : decode cX10_only 28 = .ok (.iconst 0, 1) := by decide +kernel
theorem dX10_only_29 : decode cX10_only 29 = .ok (.istore 4, 2) := by decide +kernel
theorem dX10_only_31 : decode cX10_only 31 = .ok (.iload 4, 2) := by decide +kernel
theorem dX10_only_33 : decode cX10_only 33 = .ok (.sipush 512, 3) := by decide +kernel
theorem dX10_only_36 : decode cX10_only 36 = .ok (.if_icmp .ge 125, 3) := by decide +kernel
theorem dX10_only_39 : decode cX10_only 39 = .ok (.iconst 0, 1) := by decide +kernel
theorem dX10_only_40 : decode cX10_only 40 = .ok (.istore 5, 2) := by decide +kernel
theorem dX10_only_42 : decode cX10_only 42 = .ok (.iload 5, 2) := by decide +kernel
theorem dX10_only_44 : decode cX10_only 44 = .ok (.aload_n 0, 1) := by decide +kernel
theorem dX10_only_45 : decode cX10_only 45 = .ok (.getfield 91, 3) := by decide +kernel
theorem dX10_only_48 : decode cX10_only 48 = .ok (.if_icmp .ge 107, 3) := by decide +kernel
theorem dX10_only_51 : decode cX10_only 51 = .ok (.iload 4, 2) := by decide +kernel
theorem dX10_only_53 : decode cX10_only 53 = .ok (.iload_n 2, 1) := by decide +kernel
theorem dX10_only_54 : decode cX10_only 54 = .ok (.iconst (-1), 1) := by decide +kernel
theorem dX10_only_55 : decode cX10_only 55 = .ok (.ixor, 1) := by decide +kernel
theorem dX10_only_56 : decode cX10_only 56 = .ok (.iand, 1) := by decide +kernel
theorem dX10_only_57 : decode cX10_only 57 = .ok (.ifCond .ne 98, 3) := by decide +kernel
theorem dX10_only_60 : decode cX10_only 60 = .ok (.iload_n 2, 1) := by decide +kernel
theorem dX10_only_61 : decode cX10_only 61 = .ok (.iload 4, 2) := by decide +kernel
theorem dX10_only_63 : decode cX10_only 63 = .ok (.iconst (-1), 1) := by decide +kernel
theorem dX10_only_64 : decode cX10_only 64 = .ok (.ixor, 1) := by decide +kernel
theorem dX10_only_65 : decode cX10_only 65 = .ok (.iand, 1) := by decide +kernel
theorem dX10_only_66 : decode cX10_only 66 = .ok (.iconst 1, 1) := by decide +kernel
theorem dX10_only_67 : decode cX10_only 67 = .ok (.iload 5, 2) := by decide +kernel
theorem dX10_only_69 : decode cX10_only 69 = .ok (.ishl, 1) := by decide +kernel
theorem dX10_only_70 : decode cX10_only 70 = .ok (.iand, 1) := by decide +kernel
theorem dX10_only_71 : decode cX10_only 71 = .ok (.ifCond .eq 32, 3) := by decide +kernel
theorem dX10_only_74 : decode cX10_only 74 = .ok (.iload 4, 2) := by decide +kernel
theorem dX10_only_76 : decode cX10_only 76 = .ok (.invokestatic 162, 3) := by decide +kernel
theorem dX10_only_79 : decode cX10_only 79 = .ok (.iconst 2, 1) := by decide +kernel
theorem dX10_only_80 : decode cX10_only 80 = .ok (.irem, 1) := by decide +kernel
theorem dX10_only_81 : decode cX10_only 81 = .ok (.iload_n 1, 1) := by decide +kernel
theorem dX10_only_82 : decode cX10_only 82 = .ok (.if_icmp .eq 21, 3) := by decide +kernel
theorem dX10_only_85 : decode cX10_only 85 = .ok (.aload_n 0, 1) := by decide +kernel
theorem dX10_only_86 : decode cX10_only 86 = .ok (.iload 5, 2) := by decide +kernel
theorem dX10_only_88 : decode cX10_only 88 = .ok (.iload 4, 2) := by decide +kernel
theorem dX10_only_90 : decode cX10_only 90 = .ok (.invokestatic 162, 3) := by decide +kernel
theorem dX10_only_93 : decode cX10_only 93 = .ok (.invokevirtual 187, 3) := by decide +kernel
theorem dX10_only_96 : decode cX10_only 96 = .ok (.ifCond .eq 7, 3) := by decide +kernel
theorem dX10_only_99 : decode cX10_only 99 = .ok (.iconst 1, 1) := by decide +kernel
theorem dX10_only_100 : decode cX10_only 100 = .ok (.goto 4, 3) := by decide +kernel
theorem dX10_only_103 : decode cX10_only 103 = .ok (.iconst 0, 1) := by decide +kernel
theorem dX10_only_104 : decode cX10_only 104 = .ok (.istore 6, 2) := by decide +kernel
theorem dX10_only_106 : decode cX10_only 106 = .ok (.iload_n 3, 1) := by decide +kernel
theorem dX10_only_107 : decode cX10_only 107 = .ok (.iload 6, 2) := by decide +kernel
theorem dX10_only_109 : decode cX10_only 109 = .ok (.ifCond .eq 37, 3) := by decide +kernel
theorem dX10_only_112 : decode cX10_only 112 = .ok (.aload_n 0, 1) := by decide +kernel
theorem dX10_only_113 : decode cX10_only 113 = .ok (.getfield 43, 3) := by decide +kernel
theorem dX10_only_116 : decode cX10_only 116 = .ok (.iload 4, 2) := by decide +kernel
theorem dX10_only_118 : decode cX10_only 118 = .ok (.iaload, 1) := by decide +kernel
theorem dX10_only_119 : decode cX10_only 119 = .ok (.ifCond .le 27, 3) := by decide +kernel
theorem dX10_only_122 : decode cX10_only 122 = .ok (.aload_n 0, 1) := by decide +kernel
theorem dX10_only_123 : decode cX10_only 123 = .ok (.getfield 46, 3) := by decide +kernel
theorem dX10_only_126 : decode cX10_only 126 = .ok (.iload 4, 2) := by decide +kernel
theorem dX10_only_128 : decode cX10_only 128 = .ok (.iconst 1, 1) := by decide +kernel
theorem dX10_only_129 : decode cX10_only 129 = .ok (.iload 5, 2) := by decide +kernel
theorem dX10_only_131 : decode cX10_only 131 = .ok (.ishl, 1) := by decide +kernel
theorem dX10_only_132 : decode cX10_only 132 = .ok (.ior, 1) := by decide +kernel
theorem dX10_only_133 : decode cX10_only 133 = .ok (.iaload, 1) := by decide +kernel
theorem dX10_only_134 : decode cX10_only 134 = .ok (.ifCond .le 12, 3) := by decide +kernel
theorem dX10_only_137 : decode cX10_only 137 = .ok (.iconst 1, 1) := by decide +kernel
theorem dX10_only_138 : decode cX10_only 138 = .ok (.iload 5, 2) := by decide +kernel
theorem dX10_only_140 : decode cX10_only 140 = .ok (.ishl, 1) := by decide +kernel
theorem dX10_only_141 : decode cX10_only 141 = .ok (.iconst (-1), 1) := by decide +kernel
theorem dX10_only_142 : decode cX10_only 142 = .ok (.ixor, 1) := by decide +kernel
theorem dX10_only_143 : decode cX10_only 143 = .ok (.goto 4, 3) := by decide +kernel
theorem dX10_only_146 : decode cX10_only 146 = .ok (.iconst (-1), 1) := by decide +kernel
theorem dX10_only_147 : decode cX10_only 147 = .ok (.iand, 1) := by decide +kernel
theorem dX10_only_148 : decode cX10_only 148 = .ok (.istore_n 3, 1) := by decide +kernel
theorem dX10_only_149 : decode cX10_only 149 = .ok (.iinc 5 1, 3) := by decide +kernel
theorem dX10_only_152 : decode cX10_only 152 = .ok (.goto (-110), 3) := by decide +kernel
theorem dX10_only_155 : decode cX10_only 155 = .ok (.iinc 4 1, 3) := by decide +kernel
theorem dX10_only_158 : decode cX10_only 158 = .ok (.goto (-127), 3) := by decide +kernel
theorem dX10_only_161 : decode cX10_only 161 = .ok (.iload_n 3, 1) := by decide +kernel
theorem dX10_only_162 : decode cX10_only 162 = .ok (.ireturn, 1) := by decide +kernel
def fX10_only_147 (F : Nat) (t_stones : Int32) (t_has_ : Nat → Int32) (t_slot_ : Nat → Int32) (p1 : Int32) (k31 : Int32 → Int32 → Int32 → (Nat → Int32) → (Nat → Int32) → Option (Int32 × (Nat → Int32) × (Nat → Int32))) (k42 : Int32 → Int32 → Int32 → Int32 → (Nat → Int32) → (Nat → Int32) → Option (Int32 × (Nat → Int32) × (Nat → Int32))) (x58 : Int32) (x59 : Int32) (x60 : Int32) (s61 : Int32) (s62 : Int32) (m_t_fore__63 : Nat → Int32) (m_t_back__64 : Nat → Int32) : Option (Int32 × (Nat → Int32) × (Nat → Int32)) :=
(jl_let (s62 &&& s61) fun v65 =>
(jl_let (x60 + Int32.ofInt (1)) fun v66 =>
(k42 x58 v65 x59 v66 m_t_fore__63 m_t_back__64)))
def fX10_only_146 (F : Nat) (t_stones : Int32) (t_has_ : Nat → Int32) (t_slot_ : Nat → Int32) (p1 : Int32) (k31 : Int32 → Int32 → Int32 → (Nat → Int32) → (Nat → Int32) → Option (Int32 × (Nat → Int32) × (Nat → Int32))) (k42 : Int32 → Int32 → Int32 → Int32 → (Nat → Int32) → (Nat → Int32) → Option (Int32 × (Nat → Int32) × (Nat → Int32))) (x48 : Int32) (x49 : Int32) (x50 : Int32) (s51 : Int32) (m_t_fore__52 : Nat → Int32) (m_t_back__53 : Nat → Int32) : Option (Int32 × (Nat → Int32) × (Nat → Int32)) :=
(fX10_only_147 F t_stones t_has_ t_slot_ p1 k31 k42 x48 x49 x50 ((-1 : Int32)) s51 m_t_fore__52 m_t_back__53)
def fX10_only_104 (F : Nat) (t_stones : Int32) (t_has_ : Nat → Int32) (t_slot_ : Nat → Int32) (p1 : Int32) (k31 : Int32 → Int32 → Int32 → (Nat → Int32) → (Nat → Int32) → Option (Int32 × (Nat → Int32) × (Nat → Int32))) (k42 : Int32 → Int32 → Int32 → Int32 → (Nat → Int32) → (Nat → Int32) → Option (Int32 × (Nat → Int32) × (Nat → Int32))) (x39 : Int32) (x40 : Int32) (x41 : Int32) (x42 : Int32) (s43 : Int32) (m_t_fore__44 : Nat → Int32) (m_t_back__45 : Nat → Int32) : Option (Int32 × (Nat → Int32) × (Nat → Int32)) :=
(if s43 = 0 then
(fX10_only_146 F t_stones t_has_ t_slot_ p1 k31 k42 x39 x41 x42 x40 m_t_fore__44 m_t_back__45)
else
(if x41 < 0 ∨ 512 ≤ x41.toNatClampNeg then none else
(if (m_t_fore__44 x41.toNatClampNeg) ≤ 0 then
(fX10_only_146 F t_stones t_has_ t_slot_ p1 k31 k42 x39 x41 x42 x40 m_t_fore__44 m_t_back__45)
else
(if (x41 ||| (((1 : Int32)) <<< (x42 &&& 31))) < 0 ∨ 512 ≤ (x41 ||| (((1 : Int32)) <<< (x42 &&& 31))).toNatClampNeg then none else
(if (m_t_back__45 (x41 ||| (((1 : Int32)) <<< (x42 &&& 31))).toNatClampNeg) ≤ 0 then
(fX10_only_146 F t_stones t_has_ t_slot_ p1 k31 k42 x39 x41 x42 x40 m_t_fore__44 m_t_back__45)
else
(fX10_only_147 F t_stones t_has_ t_slot_ p1 k31 k42 x39 x41 x42 ((((1 : Int32)) <<< (x42 &&& 31)) ^^^ ((-1 : Int32))) x40 m_t_fore__44 m_t_back__45))))))
def fX10_only_103 (F : Nat) (t_stones : Int32) (t_has_ : Nat → Int32) (t_slot_ : Nat → Int32) (p1 : Int32) (k31 : Int32 → Int32 → Int32 → (Nat → Int32) → (Nat → Int32) → Option (Int32 × (Nat → Int32) × (Nat → Int32))) (k42 : Int32 → Int32 → Int32 → Int32 → (Nat → Int32) → (Nat → Int32) → Option (Int32 × (Nat → Int32) × (Nat → Int32))) (x25 : Int32) (x26 : Int32) (x27 : Int32) (x28 : Int32) (m_t_fore__29 : Nat → Int32) (m_t_back__30 : Nat → Int32) : Option (Int32 × (Nat → Int32) × (Nat → Int32)) :=
(fX10_only_104 F t_stones t_has_ t_slot_ p1 k31 k42 x25 x26 x27 x28 ((0 : Int32)) m_t_fore__29 m_t_back__30)
def bX10_only_42 (F : Nat) (t_stones : Int32) (t_has_ : Nat → Int32) (t_slot_ : Nat → Int32) (p1 : Int32) (k31 : Int32 → Int32 → Int32 → (Nat → Int32) → (Nat → Int32) → Option (Int32 × (Nat → Int32) × (Nat → Int32))) (k42 : Int32 → Int32 → Int32 → Int32 → (Nat → Int32) → (Nat → Int32) → Option (Int32 × (Nat → Int32) × (Nat → Int32))) (x15 : Int32) (x16 : Int32) (x17 : Int32) (x18 : Int32) (m_t_fore__19 : Nat → Int32) (m_t_back__20 : Nat → Int32) : Option (Int32 × (Nat → Int32) × (Nat → Int32)) :=
(if t_stones ≤ x18 then
(jl_let (x17 + Int32.ofInt (1)) fun v22 =>
(k31 x15 x16 v22 m_t_fore__19 m_t_back__20))
else
(if (x17 &&& (x15 ^^^ ((-1 : Int32)))) = 0 then
(if ((x15 &&& (x17 ^^^ ((-1 : Int32)))) &&& (((1 : Int32)) <<< (x18 &&& 31))) = 0 then
(fX10_only_103 F t_stones t_has_ t_slot_ p1 k31 k42 x15 x16 x17 x18 m_t_fore__19 m_t_back__20)
else
((fX10_many F x17).bind fun r31 =>
(if (r31 - r31 / ((2 : Int32)) * ((2 : Int32))) = p1 then
(fX10_only_103 F t_stones t_has_ t_slot_ p1 k31 k42 x15 x16 x17 x18 m_t_fore__19 m_t_back__20)
else
((fX10_many F x17).bind fun r34 =>
((fX10_isBy t_has_ t_slot_ x18 r34).bind fun r36 =>
(if r36 = 0 then
(fX10_only_103 F t_stones t_has_ t_slot_ p1 k31 k42 x15 x16 x17 x18 m_t_fore__19 m_t_back__20)
else
(fX10_only_104 F t_stones t_has_ t_slot_ p1 k31 k42 x15 x16 x17 x18 ((1 : Int32)) m_t_fore__19 m_t_back__20)))))))
else
(jl_let (x17 + Int32.ofInt (1)) fun v46 =>
(k31 x15 x16 v46 m_t_fore__19 m_t_back__20))))
def lX10_only_42 (F : Nat) (t_stones : Int32) (t_has_ : Nat → Int32) (t_slot_ : Nat → Int32) (p1 : Int32) (k31 : Int32 → Int32 → Int32 → (Nat → Int32) → (Nat → Int32) → Option (Int32 × (Nat → Int32) × (Nat → Int32))) (F2 : Nat) (x15 : Int32) (x16 : Int32) (x17 : Int32) (x18 : Int32) (m_t_fore__19 : Nat → Int32) (m_t_back__20 : Nat → Int32) : Option (Int32 × (Nat → Int32) × (Nat → Int32)) := jl_loop6 (bX10_only_42 F t_stones t_has_ t_slot_ p1 k31) F2 x15 x16 x17 x18 m_t_fore__19 m_t_back__20
def bX10_only_31 (F : Nat) (t_stones : Int32) (t_has_ : Nat → Int32) (t_slot_ : Nat → Int32) (p1 : Int32)  (k31 : Int32 → Int32 → Int32 → (Nat → Int32) → (Nat → Int32) → Option (Int32 × (Nat → Int32) × (Nat → Int32))) (x9 : Int32) (x10 : Int32) (x11 : Int32) (m_t_fore__12 : Nat → Int32) (m_t_back__13 : Nat → Int32) : Option (Int32 × (Nat → Int32) × (Nat → Int32)) :=
(if ((512 : Int32)) ≤ x11 then
(some (x10, m_t_fore__12, m_t_back__13))
else
(lX10_only_42 F t_stones t_has_ t_slot_ p1 k31 F x9 x10 x11 ((0 : Int32)) m_t_fore__12 m_t_back__13))
def lX10_only_31 (F : Nat) (t_stones : Int32) (t_has_ : Nat → Int32) (t_slot_ : Nat → Int32) (p1 : Int32)  (F2 : Nat) (x9 : Int32) (x10 : Int32) (x11 : Int32) (m_t_fore__12 : Nat → Int32) (m_t_back__13 : Nat → Int32) : Option (Int32 × (Nat → Int32) × (Nat → Int32)) := jl_loop5 (bX10_only_31 F t_stones t_has_ t_slot_ p1 ) F2 x9 x10 x11 m_t_fore__12 m_t_back__13
def fX10_only (F : Nat) (t_stones : Int32) (t_has_ : Nat → Int32) (t_slot_ : Nat → Int32) (t_fore_ : Nat → Int32) (t_back_ : Nat → Int32) (p1 : Int32) : Option (Int32 × (Nat → Int32) × (Nat → Int32)) :=
((fX10_in p1.toInt64 ((0 : Int64)) ((1 : Int64))).bind fun r1 =>
(if r1 = 0 then
(some ((-1 : Int32), t_fore_, t_back_))
else
((fX10_fresh F t_slot_).bind fun r4 =>
((fX10_ordersOf F t_stones t_has_ t_slot_ t_fore_ t_back_).bind fun r6 =>
(if r6.1 = 0 then
(some ((0 : Int32), r6.2.1, r6.2.2))
else
(lX10_only_31 F t_stones t_has_ t_slot_ p1 F r4 r4 ((0 : Int32)) r6.2.1 r6.2.2))))))
def oX10_only (D : jv_D) (h_t : Nat) (h_t_text : Nat) (h_t_told : Nat) (h_t_touches : Nat) (h_t_has : Nat) (h_t_old : Nat) (h_t_beside : Nat) (h_t_slot : Nat) (h_t_row : Nat) (h_t_free : Nat) (h_t_worth : Nat) (h_t_fore : Nat) (h_t_back : Nat) (h_t_got : Nat) (t_length : Int32) (t_at : Int32) (t_stones : Int32) (t_kept : Int32) (t_done : Int32) (t_rows : Int32) (t_frees : Int32) (t_fewest : Int32) (t_has_ : Nat → Int32) (t_slot_ : Nat → Int32) (r : Int32 × (Nat → Int32) × (Nat → Int32)) : va_W := [(h_t, .inr (8, [.int t_length, .ref h_t_text, .int t_at, .ref h_t_told, .ref h_t_touches, .ref h_t_has, .ref h_t_old, .ref h_t_beside, .int t_stones, .ref h_t_slot, .int t_kept, .int t_done, .int t_rows, .ref h_t_row, .ref h_t_free, .int t_frees, .ref h_t_worth, .ref h_t_fore, .ref h_t_back, .int t_fewest, .ref h_t_got])), (h_t_has, jI D 4 t_has_), (h_t_slot, jI D 240 t_slot_), (h_t_fore, jI D 512 r.2.1), (h_t_back, jI D 512 r.2.2)]
set_option maxHeartbeats 40000000 in
set_option maxRecDepth 100000 in
theorem mX10_only (l : Launch) (D : jv_D) (F : Nat) (h_t : Nat) (h_t_text : Nat) (h_t_told : Nat) (h_t_touches : Nat) (h_t_has : Nat) (h_t_old : Nat) (h_t_beside : Nat) (h_t_slot : Nat) (h_t_row : Nat) (h_t_free : Nat) (h_t_worth : Nat) (h_t_fore : Nat) (h_t_back : Nat) (h_t_got : Nat) (t_length : Int32) (t_at : Int32) (t_stones : Int32) (t_kept : Int32) (t_done : Int32) (t_rows : Int32) (t_frees : Int32) (t_fewest : Int32) (t_has_ : Nat → Int32) (t_slot_ : Nat → Int32) (t_fore_ : Nat → Int32) (t_back_ : Nat → Int32) (p1 : Int32) (r : Int32 × (Nat → Int32) × (Nat → Int32)) (h : fX10_only F t_stones t_has_ t_slot_ t_fore_ t_back_ p1 = some r) : MM l yX10_only (jW yX10_only cX10_only 7 (some .int)) ({ frames := 2, cells := 0, slots := 0, locals := 46 }) D [.ref h_t, .int p1] [(h_t, .inr (8, [.int t_length, .ref h_t_text, .int t_at, .ref h_t_told, .ref h_t_touches, .ref h_t_has, .ref h_t_old, .ref h_t_beside, .int t_stones, .ref h_t_slot, .int t_kept, .int t_done, .int t_rows, .ref h_t_row, .ref h_t_free, .int t_frees, .ref h_t_worth, .ref h_t_fore, .ref h_t_back, .int t_fewest, .ref h_t_got])), (h_t_has, jI D 4 t_has_), (h_t_slot, jI D 240 t_slot_), (h_t_fore, jI D 512 t_fore_), (h_t_back, jI D 512 t_back_)] (some (.int r.1)) (oX10_only D h_t h_t_text h_t_told h_t_touches h_t_has h_t_old h_t_beside h_t_slot h_t_row h_t_free h_t_worth h_t_fore h_t_back h_t_got t_length t_at t_stones t_kept t_done t_rows t_frees t_fewest t_has_ t_slot_ r) := by
  refine mn_of hpX10_only (Nat.le_of_ble_eq_true rfl) ?_
  intro X hXl C E0 hN
  subst hXl
  replace C : JC D X 7 RX10 cX10_only ({ frames := 2, cells := 0, slots := 0, locals := 46 }) := C
  have E : JE D X 0 0 (some .int) (fun _ : Unit => (some (.int r.1))) (fun _ : Unit => (oX10_only D h_t h_t_text h_t_told h_t_touches h_t_has h_t_old h_t_beside h_t_slot h_t_row h_t_free h_t_worth h_t_fore h_t_back h_t_got t_length t_at t_stones t_kept t_done t_rows t_frees t_fewest t_has_ t_slot_ r)) := E0 0 0 rfl rfl
  clear E0 hN
  show JJ D X 7 0 0 0 [(0, .ref h_t), (1, .int p1)] [] [(h_t, .inr (8, [.int t_length, .ref h_t_text, .int t_at, .ref h_t_told, .ref h_t_touches, .ref h_t_has, .ref h_t_old, .ref h_t_beside, .int t_stones, .ref h_t_slot, .int t_kept, .int t_done, .int t_rows, .ref h_t_row, .ref h_t_free, .int t_frees, .ref h_t_worth, .ref h_t_fore, .ref h_t_back, .int t_fewest, .ref h_t_got])), (h_t_has, jI D 4 t_has_), (h_t_slot, jI D 240 t_slot_), (h_t_fore, jI D 512 t_fore_), (h_t_back, jI D 512 t_back_)]
  unfold fX10_only at h
  have L31 : ∀ (x9 : Int32) (x10 : Int32) (x11 : Int32) (m_t_fore__12 : Nat → Int32) (m_t_back__13 : Nat → Int32), lX10_only_31 F t_stones t_has_ t_slot_ p1  F x9 x10 x11 m_t_fore__12 m_t_back__13 = some r → JJ D X 7 0 0 31 [(0, .ref h_t), (1, .int p1), (2, .int x9), (3, .int x10), (4, .int x11)] [] [(h_t, .inr (8, [.int t_length, .ref h_t_text, .int t_at, .ref h_t_told, .ref h_t_touches, .ref h_t_has, .ref h_t_old, .ref h_t_beside, .int t_stones, .ref h_t_slot, .int t_kept, .int t_done, .int t_rows, .ref h_t_row, .ref h_t_free, .int t_frees, .ref h_t_worth, .ref h_t_fore, .ref h_t_back, .int t_fewest, .ref h_t_got])), (h_t_has, jI D 4 t_has_), (h_t_slot, jI D 240 t_slot_), (h_t_fore, jI D 512 m_t_fore__12), (h_t_back, jI D 512 m_t_back__13)] := by
    intro x9 x10 x11 m_t_fore__12 m_t_back__13 h
    refine jl_ind5 (fun x9 x10 x11 m_t_fore__12 m_t_back__13 => JJ D X 7 0 0 31 [(0, .ref h_t), (1, .int p1), (2, .int x9), (3, .int x10), (4, .int x11)] [] [(h_t, .inr (8, [.int t_length, .ref h_t_text, .int t_at, .ref h_t_told, .ref h_t_touches, .ref h_t_has, .ref h_t_old, .ref h_t_beside, .int t_stones, .ref h_t_slot, .int t_kept, .int t_done, .int t_rows, .ref h_t_row, .ref h_t_free, .int t_frees, .ref h_t_worth, .ref h_t_fore, .ref h_t_back, .int t_fewest, .ref h_t_got])), (h_t_has, jI D 4 t_has_), (h_t_slot, jI D 240 t_slot_), (h_t_fore, jI D 512 m_t_fore__12), (h_t_back, jI D 512 m_t_back__13)]) ?_ F x9 x10 x11 m_t_fore__12 m_t_back__13 h
    clear h x9 x10 x11 m_t_fore__12 m_t_back__13
    intro k31 i31 x9 x10 x11 m_t_fore__12 m_t_back__13 h
    replace i31 : ∀ (x9 : Int32) (x10 : Int32) (x11 : Int32) (m_t_fore__12 : Nat → Int32) (m_t_back__13 : Nat → Int32), k31 x9 x10 x11 m_t_fore__12 m_t_back__13 = some r → JJ D X 7 0 0 31 [(0, .ref h_t), (1, .int p1), (2, .int x9), (3, .int x10), (4, .int x11)] [] [(h_t, .inr (8, [.int t_length, .ref h_t_text, .int t_at, .ref h_t_told, .ref h_t_touches, .ref h_t_has, .ref h_t_old, .ref h_t_beside, .int t_stones, .ref h_t_slot, .int t_kept, .int t_done, .int t_rows, .ref h_t_row, .ref h_t_free, .int t_frees, .ref h_t_worth, .ref h_t_fore, .ref h_t_back, .int t_fewest, .ref h_t_got])), (h_t_has, jI D 4 t_has_), (h_t_slot, jI D 240 t_slot_), (h_t_fore, jI D 512 m_t_fore__12), (h_t_back, jI D 512 m_t_back__13)] := i31
    show JJ D X 7 0 0 31 [(0, .ref h_t), (1, .int p1), (2, .int x9), (3, .int x10), (4, .int x11)] [] [(h_t, .inr (8, [.int t_length, .ref h_t_text, .int t_at, .ref h_t_told, .ref h_t_touches, .ref h_t_has, .ref h_t_old, .ref h_t_beside, .int t_stones, .ref h_t_slot, .int t_kept, .int t_done, .int t_rows, .ref h_t_row, .ref h_t_free, .int t_frees, .ref h_t_worth, .ref h_t_fore, .ref h_t_back, .int t_fewest, .ref h_t_got])), (h_t_has, jI D 4 t_has_), (h_t_slot, jI D 240 t_slot_), (h_t_fore, jI D 512 m_t_fore__12), (h_t_back, jI D 512 m_t_back__13)]
    unfold bX10_only_31 at h
    have L42 : ∀ (x15 : Int32) (x16 : Int32) (x17 : Int32) (x18 : Int32) (m_t_fore__19 : Nat → Int32) (m_t_back__20 : Nat → Int32), lX10_only_42 F t_stones t_has_ t_slot_ p1 k31 F x15 x16 x17 x18 m_t_fore__19 m_t_back__20 = some r → JJ D X 7 0 0 42 [(0, .ref h_t), (1, .int p1), (2, .int x15), (3, .int x16), (4, .int x17), (5, .int x18)] [] [(h_t, .inr (8, [.int t_length, .ref h_t_text, .int t_at, .ref h_t_told, .ref h_t_touches, .ref h_t_has, .ref h_t_old, .ref h_t_beside, .int t_stones, .ref h_t_slot, .int t_kept, .int t_done, .int t_rows, .ref h_t_row, .ref h_t_free, .int t_frees, .ref h_t_worth, .ref h_t_fore, .ref h_t_back, .int t_fewest, .ref h_t_got])), (h_t_has, jI D 4 t_has_), (h_t_slot, jI D 240 t_slot_), (h_t_fore, jI D 512 m_t_fore__19), (h_t_back, jI D 512 m_t_back__20)] := by
      intro x15 x16 x17 x18 m_t_fore__19 m_t_back__20 h
      refine jl_ind6 (fun x15 x16 x17 x18 m_t_fore__19 m_t_back__20 => JJ D X 7 0 0 42 [(0, .ref h_t), (1, .int p1), (2, .int x15), (3, .int x16), (4, .int x17), (5, .int x18)] [] [(h_t, .inr (8, [.int t_length, .ref h_t_text, .int t_at, .ref h_t_told, .ref h_t_touches, .ref h_t_has, .ref h_t_old, .ref h_t_beside, .int t_stones, .ref h_t_slot, .int t_kept, .int t_done, .int t_rows, .ref h_t_row, .ref h_t_free, .int t_frees, .ref h_t_worth, .ref h_t_fore, .ref h_t_back, .int t_fewest, .ref h_t_got])), (h_t_has, jI D 4 t_has_), (h_t_slot, jI D 240 t_slot_), (h_t_fore, jI D 512 m_t_fore__19), (h_t_back, jI D 512 m_t_back__20)]) ?_ F x15 x16 x17 x18 m_t_fore__19 m_t_back__20 h
      clear h x15 x16 x17 x18 m_t_fore__19 m_t_back__20
      intro k42 i42 x15 x16 x17 x18 m_t_fore__19 m_t_back__20 h
      replace i42 : ∀ (x15 : Int32) (x16 : Int32) (x17 : Int32) (x18 : Int32) (m_t_fore__19 : Nat → Int32) (m_t_back__20 : Nat → Int32), k42 x15 x16 x17 x18 m_t_fore__19 m_t_back__20 = some r → JJ D X 7 0 0 42 [(0, .ref h_t), (1, .int p1), (2, .int x15), (3, .int x16), (4, .int x17), (5, .int x18)] [] [(h_t, .inr (8, [.int t_length, .ref h_t_text, .int t_at, .ref h_t_told, .ref h_t_touches, .ref h_t_has, .ref h_t_old, .ref h_t_beside, .int t_stones, .ref h_t_slot, .int t_kept, .int t_done, .int t_rows, .ref h_t_row, .ref h_t_free, .int t_frees, .ref h_t_worth, .ref h_t_fore, .ref h_t_back, .int t_fewest, .ref h_t_got])), (h_t_has, jI D 4 t_has_), (h_t_slot, jI D 240 t_slot_), (h_t_fore, jI D 512 m_t_fore__19), (h_t_back, jI D 512 m_t_back__20)] := i42
      show JJ D X 7 0 0 42 [(0, .ref h_t), (1, .int p1), (2, .int x15), (3, .int x16), (4, .int x17), (5, .int x18)] [] [(h_t, .inr (8, [.int t_length, .ref h_t_text, .int t_at, .ref h_t_told, .ref h_t_touches, .ref h_t_has, .ref h_t_old, .ref h_t_beside, .int t_stones, .ref h_t_slot, .int t_kept, .int t_done, .int t_rows, .ref h_t_row, .ref h_t_free, .int t_frees, .ref h_t_worth, .ref h_t_fore, .ref h_t_back, .int t_fewest, .ref h_t_got])), (h_t_has, jI D 4 t_has_), (h_t_slot, jI D 240 t_slot_), (h_t_fore, jI D 512 m_t_fore__19), (h_t_back, jI D 512 m_t_back__20)]
      unfold bX10_only_42 at h
      have L147 : ∀ (x58 : Int32) (x59 : Int32) (x60 : Int32) (s61 : Int32) (s62 : Int32) (m_t_fore__63 : Nat → Int32) (m_t_back__64 : Nat → Int32), fX10_only_147 F t_stones t_has_ t_slot_ p1 k31 k42 x58 x59 x60 s61 s62 m_t_fore__63 m_t_back__64 = some r → JJ D X 7 0 0 147 [(0, .ref h_t), (1, .int p1), (2, .int x58), (4, .int x59), (5, .int x60)] [.int s61, .int s62] [(h_t, .inr (8, [.int t_length, .ref h_t_text, .int t_at, .ref h_t_told, .ref h_t_touches, .ref h_t_has, .ref h_t_old, .ref h_t_beside, .int t_stones, .ref h_t_slot, .int t_kept, .int t_done, .int t_rows, .ref h_t_row, .ref h_t_free, .int t_frees, .ref h_t_worth, .ref h_t_fore, .ref h_t_back, .int t_fewest, .ref h_t_got])), (h_t_has, jI D 4 t_has_), (h_t_slot, jI D 240 t_slot_), (h_t_fore, jI D 512 m_t_fore__63), (h_t_back, jI D 512 m_t_back__64)] := by
        intro x58 x59 x60 s61 s62 m_t_fore__63 m_t_back__64 h
        unfold fX10_only_147 at h
        refine j_iand C dX10_only_147 ?_
        refine j_istore_n C dX10_only_148 rfl (lv' := fun v65 => [(3, .int v65), (0, .ref h_t), (1, .int p1), (2, .int x58), (4, .int x59), (5, .int x60)]) (by decide) (fun _ => rfl) h (fun v65 h => ?_)
        refine j_iinc C dX10_only_149 5 rfl (lv' := fun v66 => [(5, .int v66), (3, .int v65), (0, .ref h_t), (1, .int p1), (2, .int x58), (4, .int x59)]) (by decide) (fun _ => rfl) h (fun v66 h => ?_)
        refine j_goto C dX10_only_152 (tgt := 42) (by decide) ?_
        refine j_sub (lv' := [(0, .ref h_t), (1, .int p1), (2, .int x58), (3, .int v65), (4, .int x59), (5, .int v66)]) [2, 3, 4, 1, 5, 0] rfl ?_
        exact i42 x58 v65 x59 v66 m_t_fore__63 m_t_back__64 h
      have L146 : ∀ (x48 : Int32) (x49 : Int32) (x50 : Int32) (s51 : Int32) (m_t_fore__52 : Nat → Int32) (m_t_back__53 : Nat → Int32), fX10_only_146 F t_stones t_has_ t_slot_ p1 k31 k42 x48 x49 x50 s51 m_t_fore__52 m_t_back__53 = some r → JJ D X 7 0 0 146 [(0, .ref h_t), (1, .int p1), (2, .int x48), (4, .int x49), (5, .int x50)] [.int s51] [(h_t, .inr (8, [.int t_length, .ref h_t_text, .int t_at, .ref h_t_told, .ref h_t_touches, .ref h_t_has, .ref h_t_old, .ref h_t_beside, .int t_stones, .ref h_t_slot, .int t_kept, .int t_done, .int t_rows, .ref h_t_row, .ref h_t_free, .int t_frees, .ref h_t_worth, .ref h_t_fore, .ref h_t_back, .int t_fewest, .ref h_t_got])), (h_t_has, jI D 4 t_has_), (h_t_slot, jI D 240 t_slot_), (h_t_fore, jI D 512 m_t_fore__52), (h_t_back, jI D 512 m_t_back__53)] := by
        intro x48 x49 x50 s51 m_t_fore__52 m_t_back__53 h
        unfold fX10_only_146 at h
        refine j_iconst C dX10_only_146 (v := (-1 : Int32)) (by decide) ?_
        refine j_sub (lv' := [(0, .ref h_t), (1, .int p1), (2, .int x48), (4, .int x49), (5, .int x50)]) [0, 1, 2, 3, 4] rfl ?_
        exact L147 x48 x49 x50 ((-1 : Int32)) s51 m_t_fore__52 m_t_back__53 h
      have L104 : ∀ (x39 : Int32) (x40 : Int32) (x41 : Int32) (x42 : Int32) (s43 : Int32) (m_t_fore__44 : Nat → Int32) (m_t_back__45 : Nat → Int32), fX10_only_104 F t_stones t_has_ t_slot_ p1 k31 k42 x39 x40 x41 x42 s43 m_t_fore__44 m_t_back__45 = some r → JJ D X 7 0 0 104 [(0, .ref h_t), (1, .int p1), (2, .int x39), (3, .int x40), (4, .int x41), (5, .int x42)] [.int s43] [(h_t, .inr (8, [.int t_length, .ref h_t_text, .int t_at, .ref h_t_told, .ref h_t_touches, .ref h_t_has, .ref h_t_old, .ref h_t_beside, .int t_stones, .ref h_t_slot, .int t_kept, .int t_done, .int t_rows, .ref h_t_row, .ref h_t_free, .int t_frees, .ref h_t_worth, .ref h_t_fore, .ref h_t_back, .int t_fewest, .ref h_t_got])), (h_t_has, jI D 4 t_has_), (h_t_slot, jI D 240 t_slot_), (h_t_fore, jI D 512 m_t_fore__44), (h_t_back, jI D 512 m_t_back__45)] := by
        intro x39 x40 x41 x42 s43 m_t_fore__44 m_t_back__45 h
        unfold fX10_only_104 at h
        refine j_istoreC C dX10_only_104 (lv' := [(6, .int s43), (0, .ref h_t), (1, .int p1), (2, .int x39), (3, .int x40), (4, .int x41), (5, .int x42)]) (by decide) rfl ?_
        refine j_iload_n C dX10_only_106 rfl 4 rfl ?_
        refine j_iload C dX10_only_107 0 rfl ?_
        refine j_if_eq C (tgt := 146) dX10_only_109 (by decide) h (fun c47 h => ?_) (fun c47 h => ?_)
        · refine j_sub (lv' := [(0, .ref h_t), (1, .int p1), (2, .int x39), (4, .int x41), (5, .int x42)]) [1, 2, 3, 5, 6] rfl ?_
          exact L146 x39 x41 x42 x40 m_t_fore__44 m_t_back__45 h
        · refine j_aload_n C dX10_only_112 rfl 1 rfl ?_
          refine j_get C ibX10 (ci := 8) 0 rfl rfl 17 (by decide) bfX10_43 (v := .ref h_t_fore) rfl dX10_only_113 ?_
          refine j_iload C dX10_only_116 5 rfl ?_
          refine jl_inb h (fun b54 h => ?_)
          refine j_iald C 3 rfl b54 dX10_only_118 ?_
          refine j_if_le C (tgt := 146) dX10_only_119 (by decide) h (fun c55 h => ?_) (fun c55 h => ?_)
          · refine j_sub (lv' := [(0, .ref h_t), (1, .int p1), (2, .int x39), (4, .int x41), (5, .int x42)]) [1, 2, 3, 5, 6] rfl ?_
            exact L146 x39 x41 x42 x40 m_t_fore__44 m_t_back__45 h
          · refine j_aload_n C dX10_only_122 rfl 1 rfl ?_
            refine j_get C ibX10 (ci := 8) 0 rfl rfl 18 (by decide) bfX10_46 (v := .ref h_t_back) rfl dX10_only_123 ?_
            refine j_iload C dX10_only_126 5 rfl ?_
            refine j_iconst C dX10_only_128 (v := (1 : Int32)) (by decide) ?_
            refine j_iload C dX10_only_129 6 rfl ?_
            refine j_ishl C dX10_only_131 ?_
            refine j_ior C dX10_only_132 ?_
            refine jl_inb h (fun b56 h => ?_)
            refine j_iald C 4 rfl b56 dX10_only_133 ?_
            refine j_if_le C (tgt := 146) dX10_only_134 (by decide) h (fun c57 h => ?_) (fun c57 h => ?_)
            · refine j_sub (lv' := [(0, .ref h_t), (1, .int p1), (2, .int x39), (4, .int x41), (5, .int x42)]) [1, 2, 3, 5, 6] rfl ?_
              exact L146 x39 x41 x42 x40 m_t_fore__44 m_t_back__45 h
            · refine j_iconst C dX10_only_137 (v := (1 : Int32)) (by decide) ?_
              refine j_iload C dX10_only_138 6 rfl ?_
              refine j_ishl C dX10_only_140 ?_
              refine j_iconst C dX10_only_141 (v := (-1 : Int32)) (by decide) ?_
              refine j_ixor C dX10_only_142 ?_
              refine j_goto C dX10_only_143 (tgt := 147) (by decide) ?_
              refine j_sub (lv' := [(0, .ref h_t), (1, .int p1), (2, .int x39), (4, .int x41), (5, .int x42)]) [1, 2, 3, 5, 6] rfl ?_
              exact L147 x39 x41 x42 ((((1 : Int32)) <<< (x42 &&& 31)) ^^^ ((-1 : Int32))) x40 m_t_fore__44 m_t_back__45 h
      have L103 : ∀ (x25 : Int32) (x26 : Int32) (x27 : Int32) (x28 : Int32) (m_t_fore__29 : Nat → Int32) (m_t_back__30 : Nat → Int32), fX10_only_103 F t_stones t_has_ t_slot_ p1 k31 k42 x25 x26 x27 x28 m_t_fore__29 m_t_back__30 = some r → JJ D X 7 0 0 103 [(0, .ref h_t), (1, .int p1), (2, .int x25), (3, .int x26), (4, .int x27), (5, .int x28)] [] [(h_t, .inr (8, [.int t_length, .ref h_t_text, .int t_at, .ref h_t_told, .ref h_t_touches, .ref h_t_has, .ref h_t_old, .ref h_t_beside, .int t_stones, .ref h_t_slot, .int t_kept, .int t_done, .int t_rows, .ref h_t_row, .ref h_t_free, .int t_frees, .ref h_t_worth, .ref h_t_fore, .ref h_t_back, .int t_fewest, .ref h_t_got])), (h_t_has, jI D 4 t_has_), (h_t_slot, jI D 240 t_slot_), (h_t_fore, jI D 512 m_t_fore__29), (h_t_back, jI D 512 m_t_back__30)] := by
        intro x25 x26 x27 x28 m_t_fore__29 m_t_back__30 h
        unfold fX10_only_103 at h
        refine j_iconst C dX10_only_103 (v := (0 : Int32)) (by decide) ?_
        refine j_sub (lv' := [(0, .ref h_t), (1, .int p1), (2, .int x25), (3, .int x26), (4, .int x27), (5, .int x28)]) [0, 1, 2, 3, 4, 5] rfl ?_
        exact L104 x25 x26 x27 x28 ((0 : Int32)) m_t_fore__29 m_t_back__30 h
      refine j_iload C dX10_only_42 5 rfl ?_
      refine j_aload_n C dX10_only_44 rfl 0 rfl ?_
      refine j_get C ibX10 (ci := 8) 0 rfl rfl 8 (by decide) bfX10_91 (v := .int t_stones) rfl dX10_only_45 ?_
      refine j_icmp_ge C (tgt := 155) dX10_only_48 (by decide) h (fun c21 h => ?_) (fun c21 h => ?_)
      · refine j_iinc C dX10_only_155 4 rfl (lv' := fun v22 => [(4, .int v22), (0, .ref h_t), (1, .int p1), (2, .int x15), (3, .int x16), (5, .int x18)]) (by decide) (fun _ => rfl) h (fun v22 h => ?_)
        refine j_goto C dX10_only_158 (tgt := 31) (by decide) ?_
        refine j_sub (lv' := [(0, .ref h_t), (1, .int p1), (2, .int x15), (3, .int x16), (4, .int v22)]) [1, 2, 3, 4, 0] rfl ?_
        exact i31 x15 x16 v22 m_t_fore__19 m_t_back__20 h
      · refine j_iload C dX10_only_51 4 rfl ?_
        refine j_iload_n C dX10_only_53 rfl 2 rfl ?_
        refine j_iconst C dX10_only_54 (v := (-1 : Int32)) (by decide) ?_
        refine j_ixor C dX10_only_55 ?_
        refine j_iand C dX10_only_56 ?_
        refine j_if_ne C (tgt := 155) dX10_only_57 (by decide) h (fun c23 h => ?_) (fun c23 h => ?_)
        · refine j_iload_n C dX10_only_60 rfl 2 rfl ?_
          refine j_iload C dX10_only_61 4 rfl ?_
          refine j_iconst C dX10_only_63 (v := (-1 : Int32)) (by decide) ?_
          refine j_ixor C dX10_only_64 ?_
          refine j_iand C dX10_only_65 ?_
          refine j_iconst C dX10_only_66 (v := (1 : Int32)) (by decide) ?_
          refine j_iload C dX10_only_67 5 rfl ?_
          refine j_ishl C dX10_only_69 ?_
          refine j_iand C dX10_only_70 ?_
          refine j_if_eq C (tgt := 103) dX10_only_71 (by decide) h (fun c24 h => ?_) (fun c24 h => ?_)
          · refine j_sub (lv' := [(0, .ref h_t), (1, .int p1), (2, .int x15), (3, .int x16), (4, .int x17), (5, .int x18)]) [0, 1, 2, 3, 4, 5] rfl ?_
            exact L103 x15 x16 x17 x18 m_t_fore__19 m_t_back__20 h
          · refine j_iload C dX10_only_74 4 rfl ?_
            obtain ⟨r31, q32, h⟩ := jl_bind h
            refine j_cS1 C (mX10_many (jlaunch X) D F x17 r31 q32) bmX10_162 btX10_many bzX10 bcX10_many hX10_many (rest := []) rfl (jroom_of rfl) [] [0, 1, 2, 3, 4] [0, 1, 2, 3, 4] (wr := [(h_t, .inr (8, [.int t_length, .ref h_t_text, .int t_at, .ref h_t_told, .ref h_t_touches, .ref h_t_has, .ref h_t_old, .ref h_t_beside, .int t_stones, .ref h_t_slot, .int t_kept, .int t_done, .int t_rows, .ref h_t_row, .ref h_t_free, .int t_frees, .ref h_t_worth, .ref h_t_fore, .ref h_t_back, .int t_fewest, .ref h_t_got])), (h_t_has, jI D 4 t_has_), (h_t_slot, jI D 240 t_slot_), (h_t_fore, jI D 512 m_t_fore__19), (h_t_back, jI D 512 m_t_back__20)]) (ws2 := [(h_t, .inr (8, [.int t_length, .ref h_t_text, .int t_at, .ref h_t_told, .ref h_t_touches, .ref h_t_has, .ref h_t_old, .ref h_t_beside, .int t_stones, .ref h_t_slot, .int t_kept, .int t_done, .int t_rows, .ref h_t_row, .ref h_t_free, .int t_frees, .ref h_t_worth, .ref h_t_fore, .ref h_t_back, .int t_fewest, .ref h_t_got])), (h_t_has, jI D 4 t_has_), (h_t_slot, jI D 240 t_slot_), (h_t_fore, jI D 512 m_t_fore__19), (h_t_back, jI D 512 m_t_back__20)]) rfl rfl rfl rfl rfl (Nat.le_of_ble_eq_true rfl) dX10_only_76 ?_
            refine j_iconst C dX10_only_79 (v := (2 : Int32)) (by decide) ?_
            refine j_irem C dX10_only_80 (by decide) ?_
            refine j_iload_n C dX10_only_81 rfl 1 rfl ?_
            refine j_icmp_eq C (tgt := 103) dX10_only_82 (by decide) h (fun c33 h => ?_) (fun c33 h => ?_)
            · refine j_sub (lv' := [(0, .ref h_t), (1, .int p1), (2, .int x15), (3, .int x16), (4, .int x17), (5, .int x18)]) [0, 1, 2, 3, 4, 5] rfl ?_
              exact L103 x15 x16 x17 x18 m_t_fore__19 m_t_back__20 h
            · refine j_aload_n C dX10_only_85 rfl 0 rfl ?_
              refine j_iload C dX10_only_86 5 rfl ?_
              refine j_iload C dX10_only_88 4 rfl ?_
              obtain ⟨r34, q35, h⟩ := jl_bind h
              refine j_cS1 C (mX10_many (jlaunch X) D F x17 r34 q35) bmX10_162 btX10_many bzX10 bcX10_many hX10_many (rest := [.int x18, .ref h_t]) rfl (jroom_of rfl) [] [0, 1, 2, 3, 4] [0, 1, 2, 3, 4] (wr := [(h_t, .inr (8, [.int t_length, .ref h_t_text, .int t_at, .ref h_t_told, .ref h_t_touches, .ref h_t_has, .ref h_t_old, .ref h_t_beside, .int t_stones, .ref h_t_slot, .int t_kept, .int t_done, .int t_rows, .ref h_t_row, .ref h_t_free, .int t_frees, .ref h_t_worth, .ref h_t_fore, .ref h_t_back, .int t_fewest, .ref h_t_got])), (h_t_has, jI D 4 t_has_), (h_t_slot, jI D 240 t_slot_), (h_t_fore, jI D 512 m_t_fore__19), (h_t_back, jI D 512 m_t_back__20)]) (ws2 := [(h_t, .inr (8, [.int t_length, .ref h_t_text, .int t_at, .ref h_t_told, .ref h_t_touches, .ref h_t_has, .ref h_t_old, .ref h_t_beside, .int t_stones, .ref h_t_slot, .int t_kept, .int t_done, .int t_rows, .ref h_t_row, .ref h_t_free, .int t_frees, .ref h_t_worth, .ref h_t_fore, .ref h_t_back, .int t_fewest, .ref h_t_got])), (h_t_has, jI D 4 t_has_), (h_t_slot, jI D 240 t_slot_), (h_t_fore, jI D 512 m_t_fore__19), (h_t_back, jI D 512 m_t_back__20)]) rfl rfl rfl rfl rfl (Nat.le_of_ble_eq_true rfl) dX10_only_90 ?_
              obtain ⟨r36, q37, h⟩ := jl_bind h
              refine j_cV1 C (mX10_isBy (jlaunch X) D h_t h_t_text h_t_told h_t_touches h_t_has h_t_old h_t_beside h_t_slot h_t_row h_t_free h_t_worth h_t_fore h_t_back h_t_got t_length t_at t_stones t_kept t_done t_rows t_frees t_fewest t_has_ t_slot_ x18 r34 r36 q37) bmX10_187 biX10_isBy bsX10_isBy bzX10 bcX10_isBy rfl hX10_isBy (rest := []) rfl (jroom_of rfl) 0 (ci := 8) rfl rfl rfl [0, 1, 2] [3, 4] [2, 3, 4, 0, 1] (wr := [(h_t_fore, jI D 512 m_t_fore__19), (h_t_back, jI D 512 m_t_back__20)]) (ws2 := [(h_t, .inr (8, [.int t_length, .ref h_t_text, .int t_at, .ref h_t_told, .ref h_t_touches, .ref h_t_has, .ref h_t_old, .ref h_t_beside, .int t_stones, .ref h_t_slot, .int t_kept, .int t_done, .int t_rows, .ref h_t_row, .ref h_t_free, .int t_frees, .ref h_t_worth, .ref h_t_fore, .ref h_t_back, .int t_fewest, .ref h_t_got])), (h_t_has, jI D 4 t_has_), (h_t_slot, jI D 240 t_slot_), (h_t_fore, jI D 512 m_t_fore__19), (h_t_back, jI D 512 m_t_back__20)]) rfl rfl rfl rfl rfl (Nat.le_of_ble_eq_true rfl) dX10_only_93 ?_
              refine j_if_eq C (tgt := 103) dX10_only_96 (by decide) h (fun c38 h => ?_) (fun c38 h => ?_)
              · refine j_sub (lv' := [(0, .ref h_t), (1, .int p1), (2, .int x15), (3, .int x16), (4, .int x17), (5, .int x18)]) [0, 1, 2, 3, 4, 5] rfl ?_
                exact L103 x15 x16 x17 x18 m_t_fore__19 m_t_back__20 h
              · refine j_iconst C dX10_only_99 (v := (1 : Int32)) (by decide) ?_
                refine j_goto C dX10_only_100 (tgt := 104) (by decide) ?_
                refine j_sub (lv' := [(0, .ref h_t), (1, .int p1), (2, .int x15), (3, .int x16), (4, .int x17), (5, .int x18)]) [0, 1, 2, 3, 4, 5] rfl ?_
                exact L104 x15 x16 x17 x18 ((1 : Int32)) m_t_fore__19 m_t_back__20 h
        · refine j_iinc C dX10_only_155 4 rfl (lv' := fun v46 => [(4, .int v46), (0, .ref h_t), (1, .int p1), (2, .int x15), (3, .int x16), (5, .int x18)]) (by decide) (fun _ => rfl) h (fun v46 h => ?_)
          refine j_goto C dX10_only_158 (tgt := 31) (by decide) ?_
          refine j_sub (lv' := [(0, .ref h_t), (1, .int p1), (2, .int x15), (3, .int x16), (4, .int v46)]) [1, 2, 3, 4, 0] rfl ?_
          exact i31 x15 x16 v46 m_t_fore__19 m_t_back__20 h
    refine j_iload C dX10_only_31 4 rfl ?_
    refine j_sipush C dX10_only_33 (v := (512 : Int32)) (by decide) ?_
    refine j_icmp_ge C (tgt := 161) dX10_only_36 (by decide) h (fun c14 h => ?_) (fun c14 h => ?_)
    · refine j_iload_n C dX10_only_161 rfl 3 rfl ?_
      exact j_iretR C (r := r) (rtf := fun r => (some (.int r.1))) (wff := fun r => (oX10_only D h_t h_t_text h_t_told h_t_touches h_t_has h_t_old h_t_beside h_t_slot h_t_row h_t_free h_t_worth h_t_fore h_t_back h_t_got t_length t_at t_stones t_kept t_done t_rows t_frees t_fewest t_has_ t_slot_ r)) E h rfl rfl dX10_only_162
    · refine j_iconst C dX10_only_39 (v := (0 : Int32)) (by decide) ?_
      refine j_istoreC C dX10_only_40 (lv' := [(5, .int ((0 : Int32))), (0, .ref h_t), (1, .int p1), (2, .int x9), (3, .int x10), (4, .int x11)]) (by decide) rfl ?_
      refine j_sub (lv' := [(0, .ref h_t), (1, .int p1), (2, .int x9), (3, .int x10), (4, .int x11), (5, .int ((0 : Int32)))]) [1, 2, 3, 4, 5, 0] rfl ?_
      exact L42 x9 x10 x11 ((0 : Int32)) m_t_fore__12 m_t_back__13 h
  refine j_iload_n C dX10_only_0 rfl 1 rfl ?_
  refine j_i2l C dX10_only_1 ?_
  refine j_lconst C dX10_only_2 (v := (0 : Int64)) (by decide) ?_
  refine j_lconst C dX10_only_3 (v := (1 : Int64)) (by decide) ?_
  obtain ⟨r1, q2, h⟩ := jl_bind h
  refine j_cS1 C (mX10_in (jlaunch X) D p1.toInt64 ((0 : Int64)) ((1 : Int64)) r1 q2) bmX10_60 btX10_in bzX10 bcX10_in hX10_in (rest := []) rfl (jroom_of rfl) [] [0, 1, 2, 3, 4] [0, 1, 2, 3, 4] (wr := [(h_t, .inr (8, [.int t_length, .ref h_t_text, .int t_at, .ref h_t_told, .ref h_t_touches, .ref h_t_has, .ref h_t_old, .ref h_t_beside, .int t_stones, .ref h_t_slot, .int t_kept, .int t_done, .int t_rows, .ref h_t_row, .ref h_t_free, .int t_frees, .ref h_t_worth, .ref h_t_fore, .ref h_t_back, .int t_fewest, .ref h_t_got])), (h_t_has, jI D 4 t_has_), (h_t_slot, jI D 240 t_slot_), (h_t_fore, jI D 512 t_fore_), (h_t_back, jI D 512 t_back_)]) (ws2 := [(h_t, .inr (8, [.int t_length, .ref h_t_text, .int t_at, .ref h_t_told, .ref h_t_touches, .ref h_t_has, .ref h_t_old, .ref h_t_beside, .int t_stones, .ref h_t_slot, .int t_kept, .int t_done, .int t_rows, .ref h_t_row, .ref h_t_free, .int t_frees, .ref h_t_worth, .ref h_t_fore, .ref h_t_back, .int t_fewest, .ref h_t_got])), (h_t_has, jI D 4 t_has_), (h_t_slot, jI D 240 t_slot_), (h_t_fore, jI D 512 t_fore_), (h_t_back, jI D 512 t_back_)]) rfl rfl rfl rfl rfl (Nat.le_of_ble_eq_true rfl) dX10_only_4 ?_
  refine j_if_ne C (tgt := 12) dX10_only_7 (by decide) h (fun c3 h => ?_) (fun c3 h => ?_)
  · refine j_iconst C dX10_only_10 (v := (-1 : Int32)) (by decide) ?_
    exact j_iretR C (r := r) (rtf := fun r => (some (.int r.1))) (wff := fun r => (oX10_only D h_t h_t_text h_t_told h_t_touches h_t_has h_t_old h_t_beside h_t_slot h_t_row h_t_free h_t_worth h_t_fore h_t_back h_t_got t_length t_at t_stones t_kept t_done t_rows t_frees t_fewest t_has_ t_slot_ r)) E h rfl rfl dX10_only_11
  · refine j_aload_n C dX10_only_12 rfl 0 rfl ?_
    obtain ⟨r4, q5, h⟩ := jl_bind h
    refine j_cV1 C (mX10_fresh (jlaunch X) D F h_t h_t_text h_t_told h_t_touches h_t_has h_t_old h_t_beside h_t_slot h_t_row h_t_free h_t_worth h_t_fore h_t_back h_t_got t_length t_at t_stones t_kept t_done t_rows t_frees t_fewest t_slot_ r4 q5) bmX10_168 biX10_fresh bsX10_fresh bzX10 bcX10_fresh rfl hX10_fresh (rest := []) rfl (jroom_of rfl) 0 (ci := 8) rfl rfl rfl [0, 2] [1, 3, 4] [3, 0, 4, 1, 2] (wr := [(h_t_has, jI D 4 t_has_), (h_t_fore, jI D 512 t_fore_), (h_t_back, jI D 512 t_back_)]) (ws2 := [(h_t, .inr (8, [.int t_length, .ref h_t_text, .int t_at, .ref h_t_told, .ref h_t_touches, .ref h_t_has, .ref h_t_old, .ref h_t_beside, .int t_stones, .ref h_t_slot, .int t_kept, .int t_done, .int t_rows, .ref h_t_row, .ref h_t_free, .int t_frees, .ref h_t_worth, .ref h_t_fore, .ref h_t_back, .int t_fewest, .ref h_t_got])), (h_t_has, jI D 4 t_has_), (h_t_slot, jI D 240 t_slot_), (h_t_fore, jI D 512 t_fore_), (h_t_back, jI D 512 t_back_)]) rfl rfl rfl rfl rfl (Nat.le_of_ble_eq_true rfl) dX10_only_13 ?_
    refine j_istore_nC C dX10_only_16 rfl (lv' := [(2, .int r4), (0, .ref h_t), (1, .int p1)]) (by decide) rfl ?_
    refine j_aload_n C dX10_only_17 rfl 1 rfl ?_
    obtain ⟨r6, q7, h⟩ := jl_bind h
    refine j_cV1 C (mX10_ordersOf (jlaunch X) D F h_t h_t_text h_t_told h_t_touches h_t_has h_t_old h_t_beside h_t_slot h_t_row h_t_free h_t_worth h_t_fore h_t_back h_t_got t_length t_at t_stones t_kept t_done t_rows t_frees t_fewest t_has_ t_slot_ t_fore_ t_back_ r6 q7) bmX10_190 biX10_ordersOf bsX10_ordersOf bzX10 bcX10_ordersOf rfl hX10_ordersOf (rest := []) rfl (jroom_of rfl) 0 (ci := 8) rfl rfl rfl [0, 1, 2, 3, 4] [] [0, 1, 2, 3, 4] (wr := []) (ws2 := [(h_t, .inr (8, [.int t_length, .ref h_t_text, .int t_at, .ref h_t_told, .ref h_t_touches, .ref h_t_has, .ref h_t_old, .ref h_t_beside, .int t_stones, .ref h_t_slot, .int t_kept, .int t_done, .int t_rows, .ref h_t_row, .ref h_t_free, .int t_frees, .ref h_t_worth, .ref h_t_fore, .ref h_t_back, .int t_fewest, .ref h_t_got])), (h_t_has, jI D 4 t_has_), (h_t_slot, jI D 240 t_slot_), (h_t_fore, jI D 512 r6.2.1), (h_t_back, jI D 512 r6.2.2)]) rfl rfl rfl rfl rfl (Nat.le_of_ble_eq_true rfl) dX10_only_18 ?_
    refine j_if_ne C (tgt := 26) dX10_only_21 (by decide) h (fun c8 h => ?_) (fun c8 h => ?_)
    · refine j_iconst C dX10_only_24 (v := (0 : Int32)) (by decide) ?_
      exact j_iretR C (r := r) (rtf := fun r => (some (.int r.1))) (wff := fun r => (oX10_only D h_t h_t_text h_t_told h_t_touches h_t_has h_t_old h_t_beside h_t_slot h_t_row h_t_free h_t_worth h_t_fore h_t_back h_t_got t_length t_at t_stones t_kept t_done t_rows t_frees t_fewest t_has_ t_slot_ r)) E h rfl rfl dX10_only_25
    · refine j_iload_n C dX10_only_26 rfl 0 rfl ?_
      refine j_istore_nC C dX10_only_27 rfl (lv' := [(3, .int r4), (2, .int r4), (0, .ref h_t), (1, .int p1)]) (by decide) rfl ?_
      refine j_iconst C dX10_only_28 (v := (0 : Int32)) (by decide) ?_
      refine j_istoreC C dX10_only_29 (lv' := [(4, .int ((0 : Int32))), (3, .int r4), (2, .int r4), (0, .ref h_t), (1, .int p1)]) (by decide) rfl ?_
      refine j_sub (lv' := [(0, .ref h_t), (1, .int p1), (2, .int r4), (3, .int r4), (4, .int ((0 : Int32)))]) [3, 4, 2, 1, 0] rfl ?_
      exact L31 r4 r4 ((0 : Int32)) r6.2.1 r6.2.2 h
theorem dX10_takesBack_0 : decode cX10_takesBack 0 = .ok (.sipush 220, 3) := by decide +kernel
theorem dX10_takesBack_3 : decode cX10_takesBack 3 = .ok (.istore_n 1, 1) := by decide +kernel
theorem dX10_takesBack_4 : decode cX10_takesBack 4 = .ok (.aload_n 0, 1) := by decide +kernel
theorem dX10_takesBack_5 : decode cX10_takesBack 5 = .ok (.getfield 30, 3) := by decide +kernel
theorem dX10_takesBack_8 : decode cX10_takesBack 8 = .ok (.iload_n 1, 1) := by decide +kernel
theorem dX10_takesBack_9 : decode cX10_takesBack 9 = .ok (.bipush 18, 2) := by decide +kernel
theorem dX10_takesBack_11 : decode cX10_takesBack 11 = .ok (.iadd, 1) := by decide +kernel
theorem dX10_takesBack_12 : decode cX10_takesBack 12 = .ok (.dup2, 1) := by decide +kernel
theorem dX10_takesBack_13 : decode cX10_takesBack 13 = .ok (.iaload, 1) := by decide +kernel
theorem dX10_takesBack_14 : decode cX10_takesBack 14 = .ok (.iconst 1, 1) := by decide +kernel
theorem dX10_takesBack_15 : decode cX10_takesBack 15 = .ok (.isub, 1) := by decide +kernel
theorem dX10_takesBack_16 : decode cX10_takesBack 16 = .ok (.iastore, 1) := by decide +kernel
theorem dX10_takesBack_17 : decode cX10_takesBack 17 = .ok (.aload_n 0, 1) := by decide +kernel
theorem dX10_takesBack_18 : decode cX10_takesBack 18 = .ok (.getfield 30, 3) := by decide +kernel
theorem dX10_takesBack_21 : decode cX10_takesBack 21 = .ok (.iload_n 1, 1) := by decide +kernel
theorem dX10_takesBack_22 : decode cX10_takesBack 22 = .ok (.aload_n 0, 1) := by decide +kernel
theorem dX10_takesBack_23 : decode cX10_takesBack 23 = .ok (.getfield 30, 3) := by decide +kernel
theorem dX10_takesBack_26 : decode cX10_takesBack 26 = .ok (.iload_n 1, 1) := by decide +kernel
theorem dX10_takesBack_27 : decode cX10_takesBack 27 = .ok (.bipush 9, 2) := by decide +kernel
theorem dX10_takesBack_29 : decode cX10_takesBack 29 = .ok (.iadd, 1) := by decide +kernel
theorem dX10_takesBack_30 : decode cX10_takesBack 30 = .ok (.aload_n 0, 1) := by decide +kernel
theorem dX10_takesBack_31 : decode cX10_takesBack 31 = .ok (.getfield 30, 3) := by decide +kernel
theorem dX10_takesBack_34 : decode cX10_takesBack 34 = .ok (.iload_n 1, 1) := by decide +kernel
theorem dX10_takesBack_35 : decode cX10_takesBack 35 = .ok (.bipush 18, 2) := by decide +kernel
theorem dX10_takesBack_37 : decode cX10_takesBack 37 = .ok (.iadd, 1) := by decide +kernel
theorem dX10_takesBack_38 : decode cX10_takesBack 38 = .ok (.iaload, 1) := by decide +kernel
theorem dX10_takesBack_39 : decode cX10_takesBack 39 = .ok (.iadd, 1) := by decide +kernel
theorem dX10_takesBack_40 : decode cX10_takesBack 40 = .ok (.iaload, 1) := by decide +kernel
theorem dX10_takesBack_41 : decode cX10_takesBack 41 = .ok (.iadd, 1) := by decide +kernel
theorem dX10_takesBack_42 : decode cX10_takesBack 42 = .ok (.iconst 0, 1) := by decide +kernel
theorem dX10_takesBack_43 : decode cX10_takesBack 43 = .ok (.iastore, 1) := by decide +kernel
theorem dX10_takesBack_44 : decode cX10_takesBack 44 = .ok (.aload_n 0, 1) := by decide +kernel
theorem dX10_takesBack_45 : decode cX10_takesBack 45 = .ok (.getfield 30, 3) := by decide +kernel
theorem dX10_takesBack_48 : decode cX10_takesBack 48 = .ok (.iload_n 1, 1) := by decide +kernel
theorem dX10_takesBack_49 : decode cX10_takesBack 49 = .ok (.bipush 19, 2) := by decide +kernel
theorem dX10_takesBack_51 : decode cX10_takesBack 51 = .ok (.iadd, 1) := by decide +kernel
theorem dX10_takesBack_52 : decode cX10_takesBack 52 = .ok (.iconst 1, 1) := by decide +kernel
theorem dX10_takesBack_53 : decode cX10_takesBack 53 = .ok (.aload_n 0, 1) := by decide +kernel
theorem dX10_takesBack_54 : decode cX10_takesBack 54 = .ok (.getfield 30, 3) := by decide +kernel
theorem dX10_takesBack_57 : decode cX10_takesBack 57 = .ok (.iload_n 1, 1) := by decide +kernel
theorem dX10_takesBack_58 : decode cX10_takesBack 58 = .ok (.bipush 19, 2) := by decide +kernel
theorem dX10_takesBack_60 : decode cX10_takesBack 60 = .ok (.iadd, 1) := by decide +kernel
theorem dX10_takesBack_61 : decode cX10_takesBack 61 = .ok (.iaload, 1) := by decide +kernel
theorem dX10_takesBack_62 : decode cX10_takesBack 62 = .ok (.isub, 1) := by decide +kernel
theorem dX10_takesBack_63 : decode cX10_takesBack 63 = .ok (.iastore, 1) := by decide +kernel
theorem dX10_takesBack_64 : decode cX10_takesBack 64 = .ok (.return_, 1) := by decide +kernel
def fX10_takesBack (t_slot_ : Nat → Int32) : Option ((Nat → Int32)) :=
(if (((220 : Int32)) + ((18 : Int32))) < 0 ∨ 240 ≤ (((220 : Int32)) + ((18 : Int32))).toNatClampNeg then none else
(if (((220 : Int32)) + ((18 : Int32))) < 0 ∨ 240 ≤ (((220 : Int32)) + ((18 : Int32))).toNatClampNeg then none else
(jl_let (upd t_slot_ (((220 : Int32)) + ((18 : Int32))).toNatClampNeg ((t_slot_ (((220 : Int32)) + ((18 : Int32))).toNatClampNeg) - ((1 : Int32)))) fun g3 =>
(if (((220 : Int32)) + ((18 : Int32))) < 0 ∨ 240 ≤ (((220 : Int32)) + ((18 : Int32))).toNatClampNeg then none else
(if ((((220 : Int32)) + ((9 : Int32))) + (g3 (((220 : Int32)) + ((18 : Int32))).toNatClampNeg)) < 0 ∨ 240 ≤ ((((220 : Int32)) + ((9 : Int32))) + (g3 (((220 : Int32)) + ((18 : Int32))).toNatClampNeg)).toNatClampNeg then none else
(if (((220 : Int32)) + (g3 ((((220 : Int32)) + ((9 : Int32))) + (g3 (((220 : Int32)) + ((18 : Int32))).toNatClampNeg)).toNatClampNeg)) < 0 ∨ 240 ≤ (((220 : Int32)) + (g3 ((((220 : Int32)) + ((9 : Int32))) + (g3 (((220 : Int32)) + ((18 : Int32))).toNatClampNeg)).toNatClampNeg)).toNatClampNeg then none else
(jl_let (upd g3 (((220 : Int32)) + (g3 ((((220 : Int32)) + ((9 : Int32))) + (g3 (((220 : Int32)) + ((18 : Int32))).toNatClampNeg)).toNatClampNeg)).toNatClampNeg ((0 : Int32))) fun g7 =>
(if (((220 : Int32)) + ((19 : Int32))) < 0 ∨ 240 ≤ (((220 : Int32)) + ((19 : Int32))).toNatClampNeg then none else
(if (((220 : Int32)) + ((19 : Int32))) < 0 ∨ 240 ≤ (((220 : Int32)) + ((19 : Int32))).toNatClampNeg then none else
(jl_let (upd g7 (((220 : Int32)) + ((19 : Int32))).toNatClampNeg (((1 : Int32)) - (g7 (((220 : Int32)) + ((19 : Int32))).toNatClampNeg))) fun g10 =>
(some (g10))))))))))))
def oX10_takesBack (D : jv_D) (h_t : Nat) (h_t_text : Nat) (h_t_told : Nat) (h_t_touches : Nat) (h_t_has : Nat) (h_t_old : Nat) (h_t_beside : Nat) (h_t_slot : Nat) (h_t_row : Nat) (h_t_free : Nat) (h_t_worth : Nat) (h_t_fore : Nat) (h_t_back : Nat) (h_t_got : Nat) (t_length : Int32) (t_at : Int32) (t_stones : Int32) (t_kept : Int32) (t_done : Int32) (t_rows : Int32) (t_frees : Int32) (t_fewest : Int32) (r : (Nat → Int32)) : va_W := [(h_t, .inr (8, [.int t_length, .ref h_t_text, .int t_at, .ref h_t_told, .ref h_t_touches, .ref h_t_has, .ref h_t_old, .ref h_t_beside, .int t_stones, .ref h_t_slot, .int t_kept, .int t_done, .int t_rows, .ref h_t_row, .ref h_t_free, .int t_frees, .ref h_t_worth, .ref h_t_fore, .ref h_t_back, .int t_fewest, .ref h_t_got])), (h_t_slot, jI D 240 r)]
set_option maxHeartbeats 40000000 in
set_option maxRecDepth 100000 in
theorem mX10_takesBack (l : Launch) (D : jv_D) (h_t : Nat) (h_t_text : Nat) (h_t_told : Nat) (h_t_touches : Nat) (h_t_has : Nat) (h_t_old : Nat) (h_t_beside : Nat) (h_t_slot : Nat) (h_t_row : Nat) (h_t_free : Nat) (h_t_worth : Nat) (h_t_fore : Nat) (h_t_back : Nat) (h_t_got : Nat) (t_length : Int32) (t_at : Int32) (t_stones : Int32) (t_kept : Int32) (t_done : Int32) (t_rows : Int32) (t_frees : Int32) (t_fewest : Int32) (t_slot_ : Nat → Int32) (r : (Nat → Int32)) (h : fX10_takesBack t_slot_ = some r) : MM l yX10_takesBack (jW yX10_takesBack cX10_takesBack 2 none) ({ frames := 0, cells := 0, slots := 0, locals := 0 }) D [.ref h_t] [(h_t, .inr (8, [.int t_length, .ref h_t_text, .int t_at, .ref h_t_told, .ref h_t_touches, .ref h_t_has, .ref h_t_old, .ref h_t_beside, .int t_stones, .ref h_t_slot, .int t_kept, .int t_done, .int t_rows, .ref h_t_row, .ref h_t_free, .int t_frees, .ref h_t_worth, .ref h_t_fore, .ref h_t_back, .int t_fewest, .ref h_t_got])), (h_t_slot, jI D 240 t_slot_)] none (oX10_takesBack D h_t h_t_text h_t_told h_t_touches h_t_has h_t_old h_t_beside h_t_slot h_t_row h_t_free h_t_worth h_t_fore h_t_back h_t_got t_length t_at t_stones t_kept t_done t_rows t_frees t_fewest r) := by
  refine mn_of hpX10_takesBack (Nat.le_of_ble_eq_true rfl) ?_
  intro X hXl C E0 hN
  subst hXl
  replace C : JC D X 2 RX10 cX10_takesBack ({ frames := 0, cells := 0, slots := 0, locals := 0 }) := C
  have E : JE D X 0 0 none (fun _ : Unit => none) (fun _ : Unit => (oX10_takesBack D h_t h_t_text h_t_told h_t_touches h_t_has h_t_old h_t_beside h_t_slot h_t_row h_t_free h_t_worth h_t_fore h_t_back h_t_got t_length t_at t_stones t_kept t_done t_rows t_frees t_fewest r)) := E0 0 0 rfl rfl
  clear E0 hN
  show JJ D X 2 0 0 0 [(0, .ref h_t)] [] [(h_t, .inr (8, [.int t_length, .ref h_t_text, .int t_at, .ref h_t_told, .ref h_t_touches, .ref h_t_has, .ref h_t_old, .ref h_t_beside, .int t_stones, .ref h_t_slot, .int t_kept, .int t_done, .int t_rows, .ref h_t_row, .ref h_t_free, .int t_frees, .ref h_t_worth, .ref h_t_fore, .ref h_t_back, .int t_fewest, .ref h_t_got])), (h_t_slot, jI D 240 t_slot_)]
  unfold fX10_takesBack at h
  refine j_sipush C dX10_takesBack_0 (v := (220 : Int32)) (by decide) ?_
  refine j_istore_nC C dX10_takesBack_3 rfl (lv' := [(1, .int ((220 : Int32))), (0, .ref h_t)]) (by decide) rfl ?_
  refine j_aload_n C dX10_takesBack_4 rfl 1 rfl ?_
  refine j_get C ibX10 (ci := 8) 0 rfl rfl 9 (by decide) bfX10_30 (v := .ref h_t_slot) rfl dX10_takesBack_5 ?_
  refine j_iload_n C dX10_takesBack_8 rfl 0 rfl ?_
  refine j_bipush C dX10_takesBack_9 (v := (18 : Int32)) (by decide) ?_
  refine j_iadd C dX10_takesBack_11 ?_
  refine j_dup2_11 C dX10_takesBack_12 rfl rfl ?_
  refine jl_inb h (fun b1 h => ?_)
  refine j_iald C 1 rfl b1 dX10_takesBack_13 ?_
  refine j_iconst C dX10_takesBack_14 (v := (1 : Int32)) (by decide) ?_
  refine j_isub C dX10_takesBack_15 ?_
  refine jl_inb h (fun b2 h => ?_)
  refine j_iast C 1 rfl b2 dX10_takesBack_16 (ws' := fun g3 => [(h_t, .inr (8, [.int t_length, .ref h_t_text, .int t_at, .ref h_t_told, .ref h_t_touches, .ref h_t_has, .ref h_t_old, .ref h_t_beside, .int t_stones, .ref h_t_slot, .int t_kept, .int t_done, .int t_rows, .ref h_t_row, .ref h_t_free, .int t_frees, .ref h_t_worth, .ref h_t_fore, .ref h_t_back, .int t_fewest, .ref h_t_got])), (h_t_slot, jI D 240 g3)]) (fun _ => rfl) h (fun g3 h => ?_)
  refine j_aload_n C dX10_takesBack_17 rfl 1 rfl ?_
  refine j_get C ibX10 (ci := 8) 0 rfl rfl 9 (by decide) bfX10_30 (v := .ref h_t_slot) rfl dX10_takesBack_18 ?_
  refine j_iload_n C dX10_takesBack_21 rfl 0 rfl ?_
  refine j_aload_n C dX10_takesBack_22 rfl 1 rfl ?_
  refine j_get C ibX10 (ci := 8) 0 rfl rfl 9 (by decide) bfX10_30 (v := .ref h_t_slot) rfl dX10_takesBack_23 ?_
  refine j_iload_n C dX10_takesBack_26 rfl 0 rfl ?_
  refine j_bipush C dX10_takesBack_27 (v := (9 : Int32)) (by decide) ?_
  refine j_iadd C dX10_takesBack_29 ?_
  refine j_aload_n C dX10_takesBack_30 rfl 1 rfl ?_
  refine j_get C ibX10 (ci := 8) 0 rfl rfl 9 (by decide) bfX10_30 (v := .ref h_t_slot) rfl dX10_takesBack_31 ?_
  refine j_iload_n C dX10_takesBack_34 rfl 0 rfl ?_
  refine j_bipush C dX10_takesBack_35 (v := (18 : Int32)) (by decide) ?_
  refine j_iadd C dX10_takesBack_37 ?_
  refine jl_inb h (fun b4 h => ?_)
  refine j_iald C 1 rfl b4 dX10_takesBack_38 ?_
  refine j_iadd C dX10_takesBack_39 ?_
  refine jl_inb h (fun b5 h => ?_)
  refine j_iald C 1 rfl b5 dX10_takesBack_40 ?_
  refine j_iadd C dX10_takesBack_41 ?_
  refine j_iconst C dX10_takesBack_42 (v := (0 : Int32)) (by decide) ?_
  refine jl_inb h (fun b6 h => ?_)
  refine j_iast C 1 rfl b6 dX10_takesBack_43 (ws' := fun g7 => [(h_t, .inr (8, [.int t_length, .ref h_t_text, .int t_at, .ref h_t_told, .ref h_t_touches, .ref h_t_has, .ref h_t_old, .ref h_t_beside, .int t_stones, .ref h_t_slot, .int t_kept, .int t_done, .int t_rows, .ref h_t_row, .ref h_t_free, .int t_frees, .ref h_t_worth, .ref h_t_fore, .ref h_t_back, .int t_fewest, .ref h_t_got])), (h_t_slot, jI D 240 g7)]) (fun _ => rfl) h (fun g7 h => ?_)
  refine j_aload_n C dX10_takesBack_44 rfl 1 rfl ?_
  refine j_get C ibX10 (ci := 8) 0 rfl rfl 9 (by decide) bfX10_30 (v := .ref h_t_slot) rfl dX10_takesBack_45 ?_
  refine j_iload_n C dX10_takesBack_48 rfl 0 rfl ?_
  refine j_bipush C dX10_takesBack_49 (v := (19 : Int32)) (by decide) ?_
  refine j_iadd C dX10_takesBack_51 ?_
  refine j_iconst C dX10_takesBack_52 (v := (1 : Int32)) (by decide) ?_
  refine j_aload_n C dX10_takesBack_53 rfl 1 rfl ?_
  refine j_get C ibX10 (ci := 8) 0 rfl rfl 9 (by decide) bfX10_30 (v := .ref h_t_slot) rfl dX10_takesBack_54 ?_
  refine j_iload_n C dX10_takesBack_57 rfl 0 rfl ?_
  refine j_bipush C dX10_takesBack_58 (v := (19 : Int32)) (by decide) ?_
  refine j_iadd C dX10_takesBack_60 ?_
  refine jl_inb h (fun b8 h => ?_)
  refine j_iald C 1 rfl b8 dX10_takesBack_61 ?_
  refine j_isub C dX10_takesBack_62 ?_
  refine jl_inb h (fun b9 h => ?_)
  refine j_iast C 1 rfl b9 dX10_takesBack_63 (ws' := fun g10 => [(h_t, .inr (8, [.int t_length, .ref h_t_text, .int t_at, .ref h_t_told, .ref h_t_touches, .ref h_t_has, .ref h_t_old, .ref h_t_beside, .int t_stones, .ref h_t_slot, .int t_kept, .int t_done, .int t_rows, .ref h_t_row, .ref h_t_free, .int t_frees, .ref h_t_worth, .ref h_t_fore, .ref h_t_back, .int t_fewest, .ref h_t_got])), (h_t_slot, jI D 240 g10)]) (fun _ => rfl) h (fun g10 h => ?_)
  exact j_vretR C (r := r) (rtf := fun r => none) (wff := fun r => (oX10_takesBack D h_t h_t_text h_t_told h_t_touches h_t_has h_t_old h_t_beside h_t_slot h_t_row h_t_free h_t_worth h_t_fore h_t_back h_t_got t_length t_at t_stones t_kept t_done t_rows t_frees t_fewest r)) E h rfl rfl dX10_takesBack_64
theorem dX10_stuckNext_0 : decode cX10_stuckNext 0 = .ok (.aload_n 0, 1) := by decide +kernel
theorem dX10_stuckNext_1 : decode cX10_stuckNext 1 = .ok (.bipush 11, 2) := by decide +kernel
theorem dX10_stuckNext_3 : decode cX10_stuckNext 3 = .ok (.invokevirtual 144, 3) := by decide +kernel
theorem dX10_stuckNext_6 : decode cX10_stuckNext 6 = .ok (.istore_n 1, 1) := by decide +kernel
theorem dX10_stuckNext_7 : decode cX10_stuckNext 7 = .ok (.iload_n 1, 1) := by decide +kernel
theorem dX10_stuckNext_8 : decode cX10_stuckNext 8 = .ok (.ifCond .ne 22, 3) := by decide +kernel
theorem dX10_stuckNext_11 : decode cX10_stuckNext 11 = .ok (.aload_n 0, 1) := by decide +kernel
theorem dX10_stuckNext_12 : decode cX10_stuckNext 12 = .ok (.getfield 30, 3) := by decide +kernel
theorem dX10_stuckNext_15 : decode cX10_stuckNext 15 = .ok (.sipush 239, 3) := by decide +kernel
theorem dX10_stuckNext_18 : decode cX10_stuckNext 18 = .ok (.iaload, 1) := by decide +kernel
theorem dX10_stuckNext_19 : decode cX10_stuckNext 19 = .ok (.ifCond .ne 9, 3) := by decide +kernel
theorem dX10_stuckNext_22 : decode cX10_stuckNext 22 = .ok (.ldc2_w 193, 3) := by decide +kernel
theorem dX10_stuckNext_25 : decode cX10_stuckNext 25 = .ok (.goto 4, 3) := by decide +kernel
theorem dX10_stuckNext_28 : decode cX10_stuckNext 28 = .ok (.lconst 0, 1) := by decide +kernel
theorem dX10_stuckNext_29 : decode cX10_stuckNext 29 = .ok (.lreturn, 1) := by decide +kernel
theorem dX10_stuckNext_30 : decode cX10_stuckNext 30 = .ok (.lconst 0, 1) := by decide +kernel
theorem dX10_stuckNext_31 : decode cX10_stuckNext 31 = .ok (.lstore_n 2, 1) := by decide +kernel
theorem dX10_stuckNext_32 : decode cX10_stuckNext 32 = .ok (.iconst 0, 1) := by decide +kernel
theorem dX10_stuckNext_33 : decode cX10_stuckNext 33 = .ok (.istore 4, 2) := by decide +kernel
theorem dX10_stuckNext_35 : decode cX10_stuckNext 35 = .ok (.iload 4, 2) := by decide +kernel
theorem dX10_stuckNext_37 : decode cX10_stuckNext 37 = .ok (.aload_n 0, 1) := by decide +kernel
theorem dX10_stuckNext_38 : decode cX10_stuckNext 38 = .ok (.getfield 91, 3) := by decide +kernel
theorem dX10_stuckNext_41 : decode cX10_stuckNext 41 = .ok (.aload_n 0, 1) := by decide +kernel
theorem dX10_stuckNext_42 : decode cX10_stuckNext 42 = .ok (.getfield 13, 3) := by decide +kernel
theorem dX10_stuckNext_45 : decode cX10_stuckNext 45 = .ok (.iconst 2, 1) := by decide +kernel
theorem dX10_stuckNext_46 : decode cX10_stuckNext 46 = .ok (.iaload, 1) := by decide +kernel
theorem dX10_stuckNext_47 : decode cX10_stuckNext 47 = .ok (.imul, 1) := by decide +kernel
theorem dX10_stuckNext_48 : decode cX10_stuckNext 48 = .ok (.if_icmp .ge 88, 3) := by decide +kernel
theorem dX10_stuckNext_51 : decode cX10_stuckNext 51 = .ok (.iload 4, 2) := by decide +kernel
theorem dX10_stuckNext_53 : decode cX10_stuckNext 53 = .ok (.aload_n 0, 1) := by decide +kernel
theorem dX10_stuckNext_54 : decode cX10_stuckNext 54 = .ok (.getfield 13, 3) := by decide +kernel
theorem dX10_stuckNext_57 : decode cX10_stuckNext 57 = .ok (.iconst 2, 1) := by decide +kernel
theorem dX10_stuckNext_58 : decode cX10_stuckNext 58 = .ok (.iaload, 1) := by decide +kernel
theorem dX10_stuckNext_59 : decode cX10_stuckNext 59 = .ok (.idiv, 1) := by decide +kernel
theorem dX10_stuckNext_60 : decode cX10_stuckNext 60 = .ok (.istore 5, 2) := by decide +kernel
theorem dX10_stuckNext_62 : decode cX10_stuckNext 62 = .ok (.iload 4, 2) := by decide +kernel
theorem dX10_stuckNext_64 : decode cX10_stuckNext 64 = .ok (.aload_n 0, 1) := by decide +kernel
theorem dX10_stuckNext_65 : decode cX10_stuckNext 65 = .ok (.getfield 13, 3) := by decide +kernel
theorem dX10_stuckNext_68 : decode cX10_stuckNext 68 = .ok (.iconst 2, 1) := by decide +kernel
theorem dX10_stuckNext_69 : decode cX10_stuckNext 69 = .ok (.iaload, 1) := by decide +kernel
theorem dX10_stuckNext_70 : decode cX10_stuckNext 70 = .ok (.irem, 1) := by decide +kernel
theorem dX10_stuckNext_71 : decode cX10_stuckNext 71 = .ok (.iconst 1, 1) := by decide +kernel
theorem dX10_stuckNext_72 : decode cX10_stuckNext 72 = .ok (.iadd, 1) := by decide +kernel
theorem dX10_stuckNext_73 : decode cX10_stuckNext 73 = .ok (.istore 6, 2) := by decide +kernel
theorem dX10_stuckNext_75 : decode cX10_stuckNext 75 = .ok (.aload_n 0, 1) := by decide +kernel
theorem dX10_stuckNext_76 : decode cX10_stuckNext 76 = .ok (.bipush 11, 2) := by decide +kernel
theorem dX10_stuckNext_78 : decode cX10_stuckNext 78 = .ok (.iload 5, 2) := by decide +kernel
theorem dX10_stuckNext_80 : decode cX10_stuckNext 80 = .ok (.iload 6, 2) := by decide +kernel
theorem dX10_stuckNext_82 : decode cX10_stuckNext 82 = .ok (.invokevirtual 127, 3) := by decide +kernel
theorem dX10_stuckNext_85 : decode cX10_stuckNext 85 = .ok (.ifCond .eq 45, 3) := by decide +kernel
theorem dX10_stuckNext_88 : decode cX10_stuckNext 88 = .ok (.aload_n 0, 1) := by decide +kernel
theorem dX10_stuckNext_89 : decode cX10_stuckNext 89 = .ok (.bipush 11, 2) := by decide +kernel
theorem dX10_stuckNext_91 : decode cX10_stuckNext 91 = .ok (.iload 5, 2) := by decide +kernel
theorem dX10_stuckNext_93 : decode cX10_stuckNext 93 = .ok (.iload 6, 2) := by decide +kernel
theorem dX10_stuckNext_95 : decode cX10_stuckNext 95 = .ok (.invokevirtual 137, 3) := by decide +kernel
theorem dX10_stuckNext_98 : decode cX10_stuckNext 98 = .ok (.lload_n 2, 1) := by decide +kernel
theorem dX10_stuckNext_99 : decode cX10_stuckNext 99 = .ok (.aload_n 0, 1) := by decide +kernel
theorem dX10_stuckNext_100 : decode cX10_stuckNext 100 = .ok (.bipush 11, 2) := by decide +kernel
theorem dX10_stuckNext_102 : decode cX10_stuckNext 102 = .ok (.invokevirtual 144, 3) := by decide +kernel
theorem dX10_stuckNext_105 : decode cX10_stuckNext 105 = .ok (.ifCond .ne 18, 3) := by decide +kernel
theorem dX10_stuckNext_108 : decode cX10_stuckNext 108 = .ok (.aload_n 0, 1) := by decide +kernel
theorem dX10_stuckNext_109 : decode cX10_stuckNext 109 = .ok (.getfield 30, 3) := by decide +kernel
theorem dX10_stuckNext_112 : decode cX10_stuckNext 112 = .ok (.sipush 239, 3) := by decide +kernel
theorem dX10_stuckNext_115 : decode cX10_stuckNext 115 = .ok (.iaload, 1) := by decide +kernel
theorem dX10_stuckNext_116 : decode cX10_stuckNext 116 = .ok (.ifCond .ne 7, 3) := by decide +kernel
theorem dX10_stuckNext_119 : decode cX10_stuckNext 119 = .ok (.lconst 1, 1) := by decide +kernel
theorem dX10_stuckNext_120 : decode cX10_stuckNext 120 = .ok (.goto 4, 3) := by decide +kernel
theorem dX10_stuckNext_123 : decode cX10_stuckNext 123 = .ok (.lconst 0, 1) := by decide +kernel
theorem dX10_stuckNext_124 : decode cX10_stuckNext 124 = .ok (.ladd, 1) := by decide +kernel
theorem dX10_stuckNext_125 : decode cX10_stuckNext 125 = .ok (.lstore_n 2, 1) := by decide +kernel
theorem dX10_stuckNext_126 : decode cX10_stuckNext 126 = .ok (.aload_n 0, 1) := by decide +kernel
theorem dX10_stuckNext_127 : decode cX10_stuckNext 127 = .ok (.invokevirtual 195, 3) := by decide +kernel
theorem dX10_stuckNext_130 : decode cX10_stuckNext 130 = .ok (.iinc 4 1, 3) := by decide +kernel
theorem dX10_stuckNext_133 : decode cX10_stuckNext 133 = .ok (.goto (-98), 3) := by decide +kernel
theorem dX10_stuckNext_136 : decode cX10_stuckNext 136 = .ok (.lload_n 2, 1) := by decide +kernel
theorem dX10_stuckNext_137 : decode cX10_stuckNext 137 = .ok (.ldc2_w 193, 3) := by decide +kernel
theorem dX10_stuckNext_140 : decode cX10_stuckNext 140 = .ok (.iload_n 1, 1) := by decide +kernel
theorem dX10_stuckNext_141 : decode cX10_stuckNext 141 = .ok (.i2l, 1) := by decide +kernel
theorem dX10_stuckNext_142 : decode cX10_stuckNext 142 = .ok (.ldiv, 1) := by decide +kernel
theorem dX10_stuckNext_143 : decode cX10_stuckNext 143 = .ok (.lmul, 1) := by decide +kernel
theorem dX10_stuckNext_144 : decode cX10_stuckNext 144 = .ok (.lreturn, 1) := by decide +kernel
def fX10_stuckNext_124 (F : Nat) (t_stones : Int32) (t_told_ : Nat → Int32) (t_touches_ : Nat → Int32) (t_has_ : Nat → Int32) (t_beside_ : Nat → Int32) (k35 : Int32 → Int64 → Int32 → (Nat → Int32) → Option (Int64 × (Nat → Int32))) (x25 : Int32) (x26 : Int32) (s27 : Int64) (s28 : Int64) (m_t_slot__29 : Nat → Int32) : Option (Int64 × (Nat → Int32)) :=
(jl_let (s28 + s27) fun v34 =>
((fX10_takesBack m_t_slot__29).bind fun r35 =>
(jl_let (x26 + Int32.ofInt (1)) fun v37 =>
(k35 x25 v34 v37 r35))))
def fX10_stuckNext_123 (F : Nat) (t_stones : Int32) (t_told_ : Nat → Int32) (t_touches_ : Nat → Int32) (t_has_ : Nat → Int32) (t_beside_ : Nat → Int32) (k35 : Int32 → Int64 → Int32 → (Nat → Int32) → Option (Int64 × (Nat → Int32))) (x30 : Int32) (x31 : Int32) (s32 : Int64) (m_t_slot__33 : Nat → Int32) : Option (Int64 × (Nat → Int32)) :=
(fX10_stuckNext_124 F t_stones t_told_ t_touches_ t_has_ t_beside_ k35 x30 x31 ((0 : Int64)) s32 m_t_slot__33)
def bX10_stuckNext_35 (F : Nat) (t_stones : Int32) (t_told_ : Nat → Int32) (t_touches_ : Nat → Int32) (t_has_ : Nat → Int32) (t_beside_ : Nat → Int32)  (k35 : Int32 → Int64 → Int32 → (Nat → Int32) → Option (Int64 × (Nat → Int32))) (x5 : Int32) (x6 : Int64) (x7 : Int32) (m_t_slot__8 : Nat → Int32) : Option (Int64 × (Nat → Int32)) :=
(if (t_stones * (t_told_ ((2 : Int32)).toNatClampNeg)) ≤ x7 then
(if x5.toInt64 = 0 then none else
(some (x6 * (((80313433200 : Int64)) / x5.toInt64), m_t_slot__8)))
else
(if (t_told_ ((2 : Int32)).toNatClampNeg) = 0 then none else
(jl_let (x7 / (t_told_ ((2 : Int32)).toNatClampNeg)) fun v12 =>
(if (t_told_ ((2 : Int32)).toNatClampNeg) = 0 then none else
(jl_let ((x7 - x7 / (t_told_ ((2 : Int32)).toNatClampNeg) * (t_told_ ((2 : Int32)).toNatClampNeg)) + ((1 : Int32))) fun v14 =>
((fX10_isMay F t_stones t_touches_ t_has_ t_beside_ m_t_slot__8 ((11 : Int32)) v12 v14).bind fun r15 =>
(if r15 = 0 then
(jl_let (x7 + Int32.ofInt (1)) fun v18 =>
(k35 x5 x6 v18 m_t_slot__8))
else
((fX10_paints m_t_slot__8 ((11 : Int32)) v12 v14).bind fun r19 =>
((fX10_mays F t_stones t_told_ t_touches_ t_has_ t_beside_ r19 ((11 : Int32))).bind fun r21 =>
(if r21 = 0 then
(if (r19 ((239 : Int32)).toNatClampNeg) = 0 then
(fX10_stuckNext_124 F t_stones t_told_ t_touches_ t_has_ t_beside_ k35 x5 x7 ((1 : Int64)) x6 r19)
else
(fX10_stuckNext_123 F t_stones t_told_ t_touches_ t_has_ t_beside_ k35 x5 x7 x6 r19))
else
(fX10_stuckNext_123 F t_stones t_told_ t_touches_ t_has_ t_beside_ k35 x5 x7 x6 r19)))))))))))
def lX10_stuckNext_35 (F : Nat) (t_stones : Int32) (t_told_ : Nat → Int32) (t_touches_ : Nat → Int32) (t_has_ : Nat → Int32) (t_beside_ : Nat → Int32)  (F2 : Nat) (x5 : Int32) (x6 : Int64) (x7 : Int32) (m_t_slot__8 : Nat → Int32) : Option (Int64 × (Nat → Int32)) := jl_loop4 (bX10_stuckNext_35 F t_stones t_told_ t_touches_ t_has_ t_beside_ ) F2 x5 x6 x7 m_t_slot__8
def fX10_stuckNext (F : Nat) (t_stones : Int32) (t_told_ : Nat → Int32) (t_touches_ : Nat → Int32) (t_has_ : Nat → Int32) (t_beside_ : Nat → Int32) (t_slot_ : Nat → Int32) : Option (Int64 × (Nat → Int32)) :=
((fX10_mays F t_stones t_told_ t_touches_ t_has_ t_beside_ t_slot_ ((11 : Int32))).bind fun r1 =>
(if r1 = 0 then
(if (t_slot_ ((239 : Int32)).toNatClampNeg) = 0 then
(some ((80313433200 : Int64), t_slot_))
else
(some ((0 : Int64), t_slot_)))
else
(lX10_stuckNext_35 F t_stones t_told_ t_touches_ t_has_ t_beside_ F r1 ((0 : Int64)) ((0 : Int32)) t_slot_)))
def oX10_stuckNext (D : jv_D) (h_t : Nat) (h_t_text : Nat) (h_t_told : Nat) (h_t_touches : Nat) (h_t_has : Nat) (h_t_old : Nat) (h_t_beside : Nat) (h_t_slot : Nat) (h_t_row : Nat) (h_t_free : Nat) (h_t_worth : Nat) (h_t_fore : Nat) (h_t_back : Nat) (h_t_got : Nat) (t_length : Int32) (t_at : Int32) (t_stones : Int32) (t_kept : Int32) (t_done : Int32) (t_rows : Int32) (t_frees : Int32) (t_fewest : Int32) (t_told_ : Nat → Int32) (t_touches_ : Nat → Int32) (t_has_ : Nat → Int32) (t_beside_ : Nat → Int32) (r : Int64 × (Nat → Int32)) : va_W := [(h_t, .inr (8, [.int t_length, .ref h_t_text, .int t_at, .ref h_t_told, .ref h_t_touches, .ref h_t_has, .ref h_t_old, .ref h_t_beside, .int t_stones, .ref h_t_slot, .int t_kept, .int t_done, .int t_rows, .ref h_t_row, .ref h_t_free, .int t_frees, .ref h_t_worth, .ref h_t_fore, .ref h_t_back, .int t_fewest, .ref h_t_got])), (h_t_told, jI D 8 t_told_), (h_t_touches, jZ D 32 t_touches_), (h_t_has, jI D 4 t_has_), (h_t_beside, jI D 9 t_beside_), (h_t_slot, jI D 240 r.2)]
set_option maxHeartbeats 40000000 in
set_option maxRecDepth 100000 in
theorem mX10_stuckNext (l : Launch) (D : jv_D) (F : Nat) (h_t : Nat) (h_t_text : Nat) (h_t_told : Nat) (h_t_touches : Nat) (h_t_has : Nat) (h_t_old : Nat) (h_t_beside : Nat) (h_t_slot : Nat) (h_t_row : Nat) (h_t_free : Nat) (h_t_worth : Nat) (h_t_fore : Nat) (h_t_back : Nat) (h_t_got : Nat) (t_length : Int32) (t_at : Int32) (t_stones : Int32) (t_kept : Int32) (t_done : Int32) (t_rows : Int32) (t_frees : Int32) (t_fewest : Int32) (t_told_ : Nat → Int32) (t_touches_ : Nat → Int32) (t_has_ : Nat → Int32) (t_beside_ : Nat → Int32) (t_slot_ : Nat → Int32) (r : Int64 × (Nat → Int32)) (h : fX10_stuckNext F t_stones t_told_ t_touches_ t_has_ t_beside_ t_slot_ = some r) : MM l yX10_stuckNext (jW yX10_stuckNext cX10_stuckNext 7 (some .long)) ({ frames := 3, cells := 0, slots := 0, locals := 73 }) D [.ref h_t] [(h_t, .inr (8, [.int t_length, .ref h_t_text, .int t_at, .ref h_t_told, .ref h_t_touches, .ref h_t_has, .ref h_t_old, .ref h_t_beside, .int t_stones, .ref h_t_slot, .int t_kept, .int t_done, .int t_rows, .ref h_t_row, .ref h_t_free, .int t_frees, .ref h_t_worth, .ref h_t_fore, .ref h_t_back, .int t_fewest, .ref h_t_got])), (h_t_told, jI D 8 t_told_), (h_t_touches, jZ D 32 t_touches_), (h_t_has, jI D 4 t_has_), (h_t_beside, jI D 9 t_beside_), (h_t_slot, jI D 240 t_slot_)] (some (.long r.1)) (oX10_stuckNext D h_t h_t_text h_t_told h_t_touches h_t_has h_t_old h_t_beside h_t_slot h_t_row h_t_free h_t_worth h_t_fore h_t_back h_t_got t_length t_at t_stones t_kept t_done t_rows t_frees t_fewest t_told_ t_touches_ t_has_ t_beside_ r) := by
  refine mn_of hpX10_stuckNext (Nat.le_of_ble_eq_true rfl) ?_
  intro X hXl C E0 hN
  subst hXl
  replace C : JC D X 7 RX10 cX10_stuckNext ({ frames := 3, cells := 0, slots := 0, locals := 73 }) := C
  have E : JE D X 0 0 (some .long) (fun _ : Unit => (some (.long r.1))) (fun _ : Unit => (oX10_stuckNext D h_t h_t_text h_t_told h_t_touches h_t_has h_t_old h_t_beside h_t_slot h_t_row h_t_free h_t_worth h_t_fore h_t_back h_t_got t_length t_at t_stones t_kept t_done t_rows t_frees t_fewest t_told_ t_touches_ t_has_ t_beside_ r)) := E0 0 0 rfl rfl
  clear E0 hN
  show JJ D X 7 0 0 0 [(0, .ref h_t)] [] [(h_t, .inr (8, [.int t_length, .ref h_t_text, .int t_at, .ref h_t_told, .ref h_t_touches, .ref h_t_has, .ref h_t_old, .ref h_t_beside, .int t_stones, .ref h_t_slot, .int t_kept, .int t_done, .int t_rows, .ref h_t_row, .ref h_t_free, .int t_frees, .ref h_t_worth, .ref h_t_fore, .ref h_t_back, .int t_fewest, .ref h_t_got])), (h_t_told, jI D 8 t_told_), (h_t_touches, jZ D 32 t_touches_), (h_t_has, jI D 4 t_has_), (h_t_beside, jI D 9 t_beside_), (h_t_slot, jI D 240 t_slot_)]
  unfold fX10_stuckNext at h
  have L35 : ∀ (x5 : Int32) (x6 : Int64) (x7 : Int32) (m_t_slot__8 : Nat → Int32), lX10_stuckNext_35 F t_stones t_told_ t_touches_ t_has_ t_beside_  F x5 x6 x7 m_t_slot__8 = some r → JJ D X 7 0 0 35 [(0, .ref h_t), (1, .int x5), (2, .long x6), (4, .int x7)] [] [(h_t, .inr (8, [.int t_length, .ref h_t_text, .int t_at, .ref h_t_told, .ref h_t_touches, .ref h_t_has, .ref h_t_old, .ref h_t_beside, .int t_stones, .ref h_t_slot, .int t_kept, .int t_done, .int t_rows, .ref h_t_row, .ref h_t_free, .int t_frees, .ref h_t_worth, .ref h_t_fore, .ref h_t_back, .int t_fewest, .ref h_t_got])), (h_t_told, jI D 8 t_told_), (h_t_touches, jZ D 32 t_touches_), (h_t_has, jI D 4 t_has_), (h_t_beside, jI D 9 t_beside_), (h_t_slot, jI D 240 m_t_slot__8)] := by
    intro x5 x6 x7 m_t_slot__8 h
    refine jl_ind4 (fun x5 x6 x7 m_t_slot__8 => JJ D X 7 0 0 35 [(0, .ref h_t), (1, .int x5), (2, .long x6), (4, .int x7)] [] [(h_t, .inr (8, [.int t_length, .ref h_t_text, .int t_at, .ref h_t_told, .ref h_t_touches, .ref h_t_has, .ref h_t_old, .ref h_t_beside, .int t_stones, .ref h_t_slot, .int t_kept, .int t_done, .int t_rows, .ref h_t_row, .ref h_t_free, .int t_frees, .ref h_t_worth, .ref h_t_fore, .ref h_t_back, .int t_fewest, .ref h_t_got])), (h_t_told, jI D 8 t_told_), (h_t_touches, jZ D 32 t_touches_), (h_t_has, jI D 4 t_has_), (h_t_beside, jI D 9 t_beside_), (h_t_slot, jI D 240 m_t_slot__8)]) ?_ F x5 x6 x7 m_t_slot__8 h
    clear h x5 x6 x7 m_t_slot__8
    intro k35 i35 x5 x6 x7 m_t_slot__8 h
    replace i35 : ∀ (x5 : Int32) (x6 : Int64) (x7 : Int32) (m_t_slot__8 : Nat → Int32), k35 x5 x6 x7 m_t_slot__8 = some r → JJ D X 7 0 0 35 [(0, .ref h_t), (1, .int x5), (2, .long x6), (4, .int x7)] [] [(h_t, .inr (8, [.int t_length, .ref h_t_text, .int t_at, .ref h_t_told, .ref h_t_touches, .ref h_t_has, .ref h_t_old, .ref h_t_beside, .int t_stones, .ref h_t_slot, .int t_kept, .int t_done, .int t_rows, .ref h_t_row, .ref h_t_free, .int t_frees, .ref h_t_worth, .ref h_t_fore, .ref h_t_back, .int t_fewest, .ref h_t_got])), (h_t_told, jI D 8 t_told_), (h_t_touches, jZ D 32 t_touches_), (h_t_has, jI D 4 t_has_), (h_t_beside, jI D 9 t_beside_), (h_t_slot, jI D 240 m_t_slot__8)] := i35
    show JJ D X 7 0 0 35 [(0, .ref h_t), (1, .int x5), (2, .long x6), (4, .int x7)] [] [(h_t, .inr (8, [.int t_length, .ref h_t_text, .int t_at, .ref h_t_told, .ref h_t_touches, .ref h_t_has, .ref h_t_old, .ref h_t_beside, .int t_stones, .ref h_t_slot, .int t_kept, .int t_done, .int t_rows, .ref h_t_row, .ref h_t_free, .int t_frees, .ref h_t_worth, .ref h_t_fore, .ref h_t_back, .int t_fewest, .ref h_t_got])), (h_t_told, jI D 8 t_told_), (h_t_touches, jZ D 32 t_touches_), (h_t_has, jI D 4 t_has_), (h_t_beside, jI D 9 t_beside_), (h_t_slot, jI D 240 m_t_slot__8)]
    unfold bX10_stuckNext_35 at h
    have L124 : ∀ (x25 : Int32) (x26 : Int32) (s27 : Int64) (s28 : Int64) (m_t_slot__29 : Nat → Int32), fX10_stuckNext_124 F t_stones t_told_ t_touches_ t_has_ t_beside_ k35 x25 x26 s27 s28 m_t_slot__29 = some r → JJ D X 7 0 0 124 [(0, .ref h_t), (1, .int x25), (4, .int x26)] [.long s27, .long s28] [(h_t, .inr (8, [.int t_length, .ref h_t_text, .int t_at, .ref h_t_told, .ref h_t_touches, .ref h_t_has, .ref h_t_old, .ref h_t_beside, .int t_stones, .ref h_t_slot, .int t_kept, .int t_done, .int t_rows, .ref h_t_row, .ref h_t_free, .int t_frees, .ref h_t_worth, .ref h_t_fore, .ref h_t_back, .int t_fewest, .ref h_t_got])), (h_t_told, jI D 8 t_told_), (h_t_touches, jZ D 32 t_touches_), (h_t_has, jI D 4 t_has_), (h_t_beside, jI D 9 t_beside_), (h_t_slot, jI D 240 m_t_slot__29)] := by
      intro x25 x26 s27 s28 m_t_slot__29 h
      unfold fX10_stuckNext_124 at h
      refine j_ladd C dX10_stuckNext_124 ?_
      refine j_lstore_n C dX10_stuckNext_125 rfl (lv' := fun v34 => [(2, .long v34), (0, .ref h_t), (1, .int x25), (4, .int x26)]) (by decide) (fun _ => rfl) h (fun v34 h => ?_)
      refine j_aload_n C dX10_stuckNext_126 rfl 1 rfl ?_
      obtain ⟨r35, q36, h⟩ := jl_bind h
      refine j_cV0 C (mX10_takesBack (jlaunch X) D h_t h_t_text h_t_told h_t_touches h_t_has h_t_old h_t_beside h_t_slot h_t_row h_t_free h_t_worth h_t_fore h_t_back h_t_got t_length t_at t_stones t_kept t_done t_rows t_frees t_fewest m_t_slot__29 r35 q36) bmX10_195 biX10_takesBack bsX10_takesBack bzX10 bcX10_takesBack rfl hX10_takesBack (rest := []) rfl (jroom_of rfl) 0 (ci := 8) rfl rfl rfl [0, 5] [1, 2, 3, 4] [4, 0, 1, 2, 3, 5] (wr := [(h_t_told, jI D 8 t_told_), (h_t_touches, jZ D 32 t_touches_), (h_t_has, jI D 4 t_has_), (h_t_beside, jI D 9 t_beside_)]) (ws2 := [(h_t, .inr (8, [.int t_length, .ref h_t_text, .int t_at, .ref h_t_told, .ref h_t_touches, .ref h_t_has, .ref h_t_old, .ref h_t_beside, .int t_stones, .ref h_t_slot, .int t_kept, .int t_done, .int t_rows, .ref h_t_row, .ref h_t_free, .int t_frees, .ref h_t_worth, .ref h_t_fore, .ref h_t_back, .int t_fewest, .ref h_t_got])), (h_t_told, jI D 8 t_told_), (h_t_touches, jZ D 32 t_touches_), (h_t_has, jI D 4 t_has_), (h_t_beside, jI D 9 t_beside_), (h_t_slot, jI D 240 r35)]) rfl rfl rfl rfl rfl (Nat.le_of_ble_eq_true rfl) dX10_stuckNext_127 ?_
      refine j_iinc C dX10_stuckNext_130 3 rfl (lv' := fun v37 => [(4, .int v37), (2, .long v34), (0, .ref h_t), (1, .int x25)]) (by decide) (fun _ => rfl) h (fun v37 h => ?_)
      refine j_goto C dX10_stuckNext_133 (tgt := 35) (by decide) ?_
      refine j_sub (lv' := [(0, .ref h_t), (1, .int x25), (2, .long v34), (4, .int v37)]) [2, 3, 1, 0] rfl ?_
      exact i35 x25 v34 v37 r35 h
    have L123 : ∀ (x30 : Int32) (x31 : Int32) (s32 : Int64) (m_t_slot__33 : Nat → Int32), fX10_stuckNext_123 F t_stones t_told_ t_touches_ t_has_ t_beside_ k35 x30 x31 s32 m_t_slot__33 = some r → JJ D X 7 0 0 123 [(0, .ref h_t), (1, .int x30), (4, .int x31)] [.long s32] [(h_t, .inr (8, [.int t_length, .ref h_t_text, .int t_at, .ref h_t_told, .ref h_t_touches, .ref h_t_has, .ref h_t_old, .ref h_t_beside, .int t_stones, .ref h_t_slot, .int t_kept, .int t_done, .int t_rows, .ref h_t_row, .ref h_t_free, .int t_frees, .ref h_t_worth, .ref h_t_fore, .ref h_t_back, .int t_fewest, .ref h_t_got])), (h_t_told, jI D 8 t_told_), (h_t_touches, jZ D 32 t_touches_), (h_t_has, jI D 4 t_has_), (h_t_beside, jI D 9 t_beside_), (h_t_slot, jI D 240 m_t_slot__33)] := by
      intro x30 x31 s32 m_t_slot__33 h
      unfold fX10_stuckNext_123 at h
      refine j_lconst C dX10_stuckNext_123 (v := (0 : Int64)) (by decide) ?_
      refine j_sub (lv' := [(0, .ref h_t), (1, .int x30), (4, .int x31)]) [0, 1, 2] rfl ?_
      exact L124 x30 x31 ((0 : Int64)) s32 m_t_slot__33 h
    refine j_iload C dX10_stuckNext_35 3 rfl ?_
    refine j_aload_n C dX10_stuckNext_37 rfl 0 rfl ?_
    refine j_get C ibX10 (ci := 8) 0 rfl rfl 8 (by decide) bfX10_91 (v := .int t_stones) rfl dX10_stuckNext_38 ?_
    refine j_aload_n C dX10_stuckNext_41 rfl 0 rfl ?_
    refine j_get C ibX10 (ci := 8) 0 rfl rfl 3 (by decide) bfX10_13 (v := .ref h_t_told) rfl dX10_stuckNext_42 ?_
    refine j_iconst C dX10_stuckNext_45 (v := (2 : Int32)) (by decide) ?_
    refine j_iald C 1 rfl (by unfold vp_in; decide) dX10_stuckNext_46 ?_
    refine j_imul C dX10_stuckNext_47 ?_
    refine j_icmp_ge C (tgt := 136) dX10_stuckNext_48 (by decide) h (fun c9 h => ?_) (fun c9 h => ?_)
    · refine j_lload_n C dX10_stuckNext_136 rfl 2 rfl ?_
      refine j_ldc2_w C bKX10_193 dX10_stuckNext_137 ?_
      refine j_iload_n C dX10_stuckNext_140 rfl 1 rfl ?_
      refine j_i2l C dX10_stuckNext_141 ?_
      refine jl_grd h (fun b10 h => ?_)
      refine j_ldiv C dX10_stuckNext_142 b10 ?_
      refine j_lmul C dX10_stuckNext_143 ?_
      exact j_lretR C (r := r) (rtf := fun r => (some (.long r.1))) (wff := fun r => (oX10_stuckNext D h_t h_t_text h_t_told h_t_touches h_t_has h_t_old h_t_beside h_t_slot h_t_row h_t_free h_t_worth h_t_fore h_t_back h_t_got t_length t_at t_stones t_kept t_done t_rows t_frees t_fewest t_told_ t_touches_ t_has_ t_beside_ r)) E h rfl rfl dX10_stuckNext_144
    · refine j_iload C dX10_stuckNext_51 3 rfl ?_
      refine j_aload_n C dX10_stuckNext_53 rfl 0 rfl ?_
      refine j_get C ibX10 (ci := 8) 0 rfl rfl 3 (by decide) bfX10_13 (v := .ref h_t_told) rfl dX10_stuckNext_54 ?_
      refine j_iconst C dX10_stuckNext_57 (v := (2 : Int32)) (by decide) ?_
      refine j_iald C 1 rfl (by unfold vp_in; decide) dX10_stuckNext_58 ?_
      refine jl_grd h (fun b11 h => ?_)
      refine j_idiv C dX10_stuckNext_59 b11 ?_
      refine j_istore C dX10_stuckNext_60 (lv' := fun v12 => [(5, .int v12), (0, .ref h_t), (1, .int x5), (2, .long x6), (4, .int x7)]) (by decide) (fun _ => rfl) h (fun v12 h => ?_)
      refine j_iload C dX10_stuckNext_62 4 rfl ?_
      refine j_aload_n C dX10_stuckNext_64 rfl 1 rfl ?_
      refine j_get C ibX10 (ci := 8) 0 rfl rfl 3 (by decide) bfX10_13 (v := .ref h_t_told) rfl dX10_stuckNext_65 ?_
      refine j_iconst C dX10_stuckNext_68 (v := (2 : Int32)) (by decide) ?_
      refine j_iald C 1 rfl (by unfold vp_in; decide) dX10_stuckNext_69 ?_
      refine jl_grd h (fun b13 h => ?_)
      refine j_irem C dX10_stuckNext_70 b13 ?_
      refine j_iconst C dX10_stuckNext_71 (v := (1 : Int32)) (by decide) ?_
      refine j_iadd C dX10_stuckNext_72 ?_
      refine j_istore C dX10_stuckNext_73 (lv' := fun v14 => [(6, .int v14), (5, .int v12), (0, .ref h_t), (1, .int x5), (2, .long x6), (4, .int x7)]) (by decide) (fun _ => rfl) h (fun v14 h => ?_)
      refine j_aload_n C dX10_stuckNext_75 rfl 2 rfl ?_
      refine j_bipush C dX10_stuckNext_76 (v := (11 : Int32)) (by decide) ?_
      refine j_iload C dX10_stuckNext_78 1 rfl ?_
      refine j_iload C dX10_stuckNext_80 0 rfl ?_
      obtain ⟨r15, q16, h⟩ := jl_bind h
      refine j_cV1 C (mX10_isMay (jlaunch X) D F h_t h_t_text h_t_told h_t_touches h_t_has h_t_old h_t_beside h_t_slot h_t_row h_t_free h_t_worth h_t_fore h_t_back h_t_got t_length t_at t_stones t_kept t_done t_rows t_frees t_fewest t_touches_ t_has_ t_beside_ m_t_slot__8 ((11 : Int32)) v12 v14 r15 q16) bmX10_127 biX10_isMay bsX10_isMay bzX10 bcX10_isMay rfl hX10_isMay (rest := []) rfl (jroom_of rfl) 0 (ci := 8) rfl rfl rfl [0, 2, 3, 4, 5] [1] [1, 0, 2, 3, 4, 5] (wr := [(h_t_told, jI D 8 t_told_)]) (ws2 := [(h_t, .inr (8, [.int t_length, .ref h_t_text, .int t_at, .ref h_t_told, .ref h_t_touches, .ref h_t_has, .ref h_t_old, .ref h_t_beside, .int t_stones, .ref h_t_slot, .int t_kept, .int t_done, .int t_rows, .ref h_t_row, .ref h_t_free, .int t_frees, .ref h_t_worth, .ref h_t_fore, .ref h_t_back, .int t_fewest, .ref h_t_got])), (h_t_told, jI D 8 t_told_), (h_t_touches, jZ D 32 t_touches_), (h_t_has, jI D 4 t_has_), (h_t_beside, jI D 9 t_beside_), (h_t_slot, jI D 240 m_t_slot__8)]) rfl rfl rfl rfl rfl (Nat.le_of_ble_eq_true rfl) dX10_stuckNext_82 ?_
      refine j_if_eq C (tgt := 130) dX10_stuckNext_85 (by decide) h (fun c17 h => ?_) (fun c17 h => ?_)
      · refine j_iinc C dX10_stuckNext_130 5 rfl (lv' := fun v18 => [(4, .int v18), (6, .int v14), (5, .int v12), (0, .ref h_t), (1, .int x5), (2, .long x6)]) (by decide) (fun _ => rfl) h (fun v18 h => ?_)
        refine j_goto C dX10_stuckNext_133 (tgt := 35) (by decide) ?_
        refine j_sub (lv' := [(0, .ref h_t), (1, .int x5), (2, .long x6), (4, .int v18)]) [3, 4, 5, 0] rfl ?_
        exact i35 x5 x6 v18 m_t_slot__8 h
      · refine j_aload_n C dX10_stuckNext_88 rfl 2 rfl ?_
        refine j_bipush C dX10_stuckNext_89 (v := (11 : Int32)) (by decide) ?_
        refine j_iload C dX10_stuckNext_91 1 rfl ?_
        refine j_iload C dX10_stuckNext_93 0 rfl ?_
        obtain ⟨r19, q20, h⟩ := jl_bind h
        refine j_cV0 C (mX10_paints (jlaunch X) D h_t h_t_text h_t_told h_t_touches h_t_has h_t_old h_t_beside h_t_slot h_t_row h_t_free h_t_worth h_t_fore h_t_back h_t_got t_length t_at t_stones t_kept t_done t_rows t_frees t_fewest m_t_slot__8 ((11 : Int32)) v12 v14 r19 q20) bmX10_137 biX10_paints bsX10_paints bzX10 bcX10_paints rfl hX10_paints (rest := []) rfl (jroom_of rfl) 0 (ci := 8) rfl rfl rfl [0, 5] [1, 2, 3, 4] [4, 0, 1, 2, 3, 5] (wr := [(h_t_told, jI D 8 t_told_), (h_t_touches, jZ D 32 t_touches_), (h_t_has, jI D 4 t_has_), (h_t_beside, jI D 9 t_beside_)]) (ws2 := [(h_t, .inr (8, [.int t_length, .ref h_t_text, .int t_at, .ref h_t_told, .ref h_t_touches, .ref h_t_has, .ref h_t_old, .ref h_t_beside, .int t_stones, .ref h_t_slot, .int t_kept, .int t_done, .int t_rows, .ref h_t_row, .ref h_t_free, .int t_frees, .ref h_t_worth, .ref h_t_fore, .ref h_t_back, .int t_fewest, .ref h_t_got])), (h_t_told, jI D 8 t_told_), (h_t_touches, jZ D 32 t_touches_), (h_t_has, jI D 4 t_has_), (h_t_beside, jI D 9 t_beside_), (h_t_slot, jI D 240 r19)]) rfl rfl rfl rfl rfl (Nat.le_of_ble_eq_true rfl) dX10_stuckNext_95 ?_
        refine j_lload_n C dX10_stuckNext_98 rfl 4 rfl ?_
        refine j_aload_n C dX10_stuckNext_99 rfl 2 rfl ?_
        refine j_bipush C dX10_stuckNext_100 (v := (11 : Int32)) (by decide) ?_
        obtain ⟨r21, q22, h⟩ := jl_bind h
        refine j_cV1 C (mX10_mays (jlaunch X) D F h_t h_t_text h_t_told h_t_touches h_t_has h_t_old h_t_beside h_t_slot h_t_row h_t_free h_t_worth h_t_fore h_t_back h_t_got t_length t_at t_stones t_kept t_done t_rows t_frees t_fewest t_told_ t_touches_ t_has_ t_beside_ r19 ((11 : Int32)) r21 q22) bmX10_144 biX10_mays bsX10_mays bzX10 bcX10_mays rfl hX10_mays (rest := [.long x6]) rfl (jroom_of rfl) 0 (ci := 8) rfl rfl rfl [0, 1, 2, 3, 4, 5] [] [0, 1, 2, 3, 4, 5] (wr := []) (ws2 := [(h_t, .inr (8, [.int t_length, .ref h_t_text, .int t_at, .ref h_t_told, .ref h_t_touches, .ref h_t_has, .ref h_t_old, .ref h_t_beside, .int t_stones, .ref h_t_slot, .int t_kept, .int t_done, .int t_rows, .ref h_t_row, .ref h_t_free, .int t_frees, .ref h_t_worth, .ref h_t_fore, .ref h_t_back, .int t_fewest, .ref h_t_got])), (h_t_told, jI D 8 t_told_), (h_t_touches, jZ D 32 t_touches_), (h_t_has, jI D 4 t_has_), (h_t_beside, jI D 9 t_beside_), (h_t_slot, jI D 240 r19)]) rfl rfl rfl rfl rfl (Nat.le_of_ble_eq_true rfl) dX10_stuckNext_102 ?_
        refine j_if_ne C (tgt := 123) dX10_stuckNext_105 (by decide) h (fun c23 h => ?_) (fun c23 h => ?_)
        · refine j_aload_n C dX10_stuckNext_108 rfl 2 rfl ?_
          refine j_get C ibX10 (ci := 8) 0 rfl rfl 9 (by decide) bfX10_30 (v := .ref h_t_slot) rfl dX10_stuckNext_109 ?_
          refine j_sipush C dX10_stuckNext_112 (v := (239 : Int32)) (by decide) ?_
          refine j_iald C 5 rfl (by unfold vp_in; decide) dX10_stuckNext_115 ?_
          refine j_if_ne C (tgt := 123) dX10_stuckNext_116 (by decide) h (fun c24 h => ?_) (fun c24 h => ?_)
          · refine j_lconst C dX10_stuckNext_119 (v := (1 : Int64)) (by decide) ?_
            refine j_goto C dX10_stuckNext_120 (tgt := 124) (by decide) ?_
            refine j_sub (lv' := [(0, .ref h_t), (1, .int x5), (4, .int x7)]) [2, 3, 5] rfl ?_
            exact L124 x5 x7 ((1 : Int64)) x6 r19 h
          · refine j_sub (lv' := [(0, .ref h_t), (1, .int x5), (4, .int x7)]) [2, 3, 5] rfl ?_
            exact L123 x5 x7 x6 r19 h
        · refine j_sub (lv' := [(0, .ref h_t), (1, .int x5), (4, .int x7)]) [2, 3, 5] rfl ?_
          exact L123 x5 x7 x6 r19 h
  refine j_aload_n C dX10_stuckNext_0 rfl 0 rfl ?_
  refine j_bipush C dX10_stuckNext_1 (v := (11 : Int32)) (by decide) ?_
  obtain ⟨r1, q2, h⟩ := jl_bind h
  refine j_cV1 C (mX10_mays (jlaunch X) D F h_t h_t_text h_t_told h_t_touches h_t_has h_t_old h_t_beside h_t_slot h_t_row h_t_free h_t_worth h_t_fore h_t_back h_t_got t_length t_at t_stones t_kept t_done t_rows t_frees t_fewest t_told_ t_touches_ t_has_ t_beside_ t_slot_ ((11 : Int32)) r1 q2) bmX10_144 biX10_mays bsX10_mays bzX10 bcX10_mays rfl hX10_mays (rest := []) rfl (jroom_of rfl) 0 (ci := 8) rfl rfl rfl [0, 1, 2, 3, 4, 5] [] [0, 1, 2, 3, 4, 5] (wr := []) (ws2 := [(h_t, .inr (8, [.int t_length, .ref h_t_text, .int t_at, .ref h_t_told, .ref h_t_touches, .ref h_t_has, .ref h_t_old, .ref h_t_beside, .int t_stones, .ref h_t_slot, .int t_kept, .int t_done, .int t_rows, .ref h_t_row, .ref h_t_free, .int t_frees, .ref h_t_worth, .ref h_t_fore, .ref h_t_back, .int t_fewest, .ref h_t_got])), (h_t_told, jI D 8 t_told_), (h_t_touches, jZ D 32 t_touches_), (h_t_has, jI D 4 t_has_), (h_t_beside, jI D 9 t_beside_), (h_t_slot, jI D 240 t_slot_)]) rfl rfl rfl rfl rfl (Nat.le_of_ble_eq_true rfl) dX10_stuckNext_3 ?_
  refine j_istore_nC C dX10_stuckNext_6 rfl (lv' := [(1, .int r1), (0, .ref h_t)]) (by decide) rfl ?_
  refine j_iload_n C dX10_stuckNext_7 rfl 0 rfl ?_
  refine j_if_ne C (tgt := 30) dX10_stuckNext_8 (by decide) h (fun c3 h => ?_) (fun c3 h => ?_)
  · refine j_aload_n C dX10_stuckNext_11 rfl 1 rfl ?_
    refine j_get C ibX10 (ci := 8) 0 rfl rfl 9 (by decide) bfX10_30 (v := .ref h_t_slot) rfl dX10_stuckNext_12 ?_
    refine j_sipush C dX10_stuckNext_15 (v := (239 : Int32)) (by decide) ?_
    refine j_iald C 5 rfl (by unfold vp_in; decide) dX10_stuckNext_18 ?_
    refine j_if_ne C (tgt := 28) dX10_stuckNext_19 (by decide) h (fun c4 h => ?_) (fun c4 h => ?_)
    · refine j_ldc2_w C bKX10_193 dX10_stuckNext_22 ?_
      refine j_goto C dX10_stuckNext_25 (tgt := 29) (by decide) ?_
      exact j_lretR C (r := r) (rtf := fun r => (some (.long r.1))) (wff := fun r => (oX10_stuckNext D h_t h_t_text h_t_told h_t_touches h_t_has h_t_old h_t_beside h_t_slot h_t_row h_t_free h_t_worth h_t_fore h_t_back h_t_got t_length t_at t_stones t_kept t_done t_rows t_frees t_fewest t_told_ t_touches_ t_has_ t_beside_ r)) E h rfl rfl dX10_stuckNext_29
    · refine j_lconst C dX10_stuckNext_28 (v := (0 : Int64)) (by decide) ?_
      exact j_lretR C (r := r) (rtf := fun r => (some (.long r.1))) (wff := fun r => (oX10_stuckNext D h_t h_t_text h_t_told h_t_touches h_t_has h_t_old h_t_beside h_t_slot h_t_row h_t_free h_t_worth h_t_fore h_t_back h_t_got t_length t_at t_stones t_kept t_done t_rows t_frees t_fewest t_told_ t_touches_ t_has_ t_beside_ r)) E h rfl rfl dX10_stuckNext_29
  · refine j_lconst C dX10_stuckNext_30 (v := (0 : Int64)) (by decide) ?_
    refine j_lstore_nC C dX10_stuckNext_31 rfl (lv' := [(2, .long ((0 : Int64))), (1, .int r1), (0, .ref h_t)]) (by decide) rfl ?_
    refine j_iconst C dX10_stuckNext_32 (v := (0 : Int32)) (by decide) ?_
    refine j_istoreC C dX10_stuckNext_33 (lv' := [(4, .int ((0 : Int32))), (2, .long ((0 : Int64))), (1, .int r1), (0, .ref h_t)]) (by decide) rfl ?_
    refine j_sub (lv' := [(0, .ref h_t), (1, .int r1), (2, .long ((0 : Int64))), (4, .int ((0 : Int32)))]) [3, 2, 1, 0] rfl ?_
    exact L35 r1 ((0 : Int64)) ((0 : Int32)) t_slot_ h
theorem dX10_odds_0 : decode cX10_odds 0 = .ok (.iload_n 1, 1) := by decide +kernel
theorem dX10_odds_1 : decode cX10_odds 1 = .ok (.i2l, 1) := by decide +kernel
theorem dX10_odds_2 : decode cX10_odds 2 = .ok (.lconst 0, 1) := by decide +kernel
theorem dX10_odds_3 : decode cX10_odds 3 = .ok (.ldc2_w 75, 3) := by decide +kernel
theorem dX10_odds_6 : decode cX10_odds 6 = .ok (.invokestatic 60, 3) := by decide +kernel
theorem dX10_odds_9 : decode cX10_odds 9 = .ok (.ifCond .eq 13, 3) := by decide +kernel
theorem dX10_odds_12 : decode cX10_odds 12 = .ok (.iload_n 2, 1) := by decide +kernel
theorem dX10_odds_13 : decode cX10_odds 13 = .ok (.i2l, 1) := by decide +kernel
theorem dX10_odds_14 : decode cX10_odds 14 = .ok (.lconst 0, 1) := by decide +kernel
theorem dX10_odds_15 : decode cX10_odds 15 = .ok (.lconst 1, 1) := by decide +kernel
theorem dX10_odds_16 : decode cX10_odds 16 = .ok (.invokestatic 60, 3) := by decide +kernel
theorem dX10_odds_19 : decode cX10_odds 19 = .ok (.ifCond .ne 7, 3) := by decide +kernel
theorem dX10_odds_22 : decode cX10_odds 22 = .ok (.ldc2_w 198, 3) := by decide +kernel
theorem dX10_odds_25 : decode cX10_odds 25 = .ok (.lreturn, 1) := by decide +kernel
theorem dX10_odds_26 : decode cX10_odds 26 = .ok (.aload_n 0, 1) := by decide +kernel
theorem dX10_odds_27 : decode cX10_odds 27 = .ok (.iconst 0, 1) := by decide +kernel
theorem dX10_odds_28 : decode cX10_odds 28 = .ok (.bipush 11, 2) := by decide +kernel
theorem dX10_odds_30 : decode cX10_odds 30 = .ok (.invokevirtual 130, 3) := by decide +kernel
theorem dX10_odds_33 : decode cX10_odds 33 = .ok (.aload_n 0, 1) := by decide +kernel
theorem dX10_odds_34 : decode cX10_odds 34 = .ok (.iconst 0, 1) := by decide +kernel
theorem dX10_odds_35 : decode cX10_odds 35 = .ok (.invokevirtual 144, 3) := by decide +kernel
theorem dX10_odds_38 : decode cX10_odds 38 = .ok (.istore_n 3, 1) := by decide +kernel
theorem dX10_odds_39 : decode cX10_odds 39 = .ok (.lconst 0, 1) := by decide +kernel
theorem dX10_odds_40 : decode cX10_odds 40 = .ok (.lstore 4, 2) := by decide +kernel
theorem dX10_odds_42 : decode cX10_odds 42 = .ok (.ldc2_w 193, 3) := by decide +kernel
theorem dX10_odds_45 : decode cX10_odds 45 = .ok (.lstore 6, 2) := by decide +kernel
theorem dX10_odds_47 : decode cX10_odds 47 = .ok (.iload_n 3, 1) := by decide +kernel
theorem dX10_odds_48 : decode cX10_odds 48 = .ok (.ifCond .eq 7, 3) := by decide +kernel
theorem dX10_odds_51 : decode cX10_odds 51 = .ok (.iload_n 1, 1) := by decide +kernel
theorem dX10_odds_52 : decode cX10_odds 52 = .ok (.ifCond .ne 29, 3) := by decide +kernel
theorem dX10_odds_55 : decode cX10_odds 55 = .ok (.iload_n 3, 1) := by decide +kernel
theorem dX10_odds_56 : decode cX10_odds 56 = .ok (.ifCond .ne 19, 3) := by decide +kernel
theorem dX10_odds_59 : decode cX10_odds 59 = .ok (.aload_n 0, 1) := by decide +kernel
theorem dX10_odds_60 : decode cX10_odds 60 = .ok (.getfield 30, 3) := by decide +kernel
theorem dX10_odds_63 : decode cX10_odds 63 = .ok (.bipush 19, 2) := by decide +kernel
theorem dX10_odds_65 : decode cX10_odds 65 = .ok (.iaload, 1) := by decide +kernel
theorem dX10_odds_66 : decode cX10_odds 66 = .ok (.ifCond .ne 9, 3) := by decide +kernel
theorem dX10_odds_69 : decode cX10_odds 69 = .ok (.ldc2_w 193, 3) := by decide +kernel
theorem dX10_odds_72 : decode cX10_odds 72 = .ok (.goto 4, 3) := by decide +kernel
theorem dX10_odds_75 : decode cX10_odds 75 = .ok (.lconst 0, 1) := by decide +kernel
theorem dX10_odds_76 : decode cX10_odds 76 = .ok (.lstore 4, 2) := by decide +kernel
theorem dX10_odds_78 : decode cX10_odds 78 = .ok (.goto 110, 3) := by decide +kernel
theorem dX10_odds_81 : decode cX10_odds 81 = .ok (.iload_n 1, 1) := by decide +kernel
theorem dX10_odds_82 : decode cX10_odds 82 = .ok (.iconst 1, 1) := by decide +kernel
theorem dX10_odds_83 : decode cX10_odds 83 = .ok (.if_icmp .ne 12, 3) := by decide +kernel
theorem dX10_odds_86 : decode cX10_odds 86 = .ok (.aload_n 0, 1) := by decide +kernel
theorem dX10_odds_87 : decode cX10_odds 87 = .ok (.invokevirtual 200, 3) := by decide +kernel
theorem dX10_odds_90 : decode cX10_odds 90 = .ok (.lstore 4, 2) := by decide +kernel
theorem dX10_odds_92 : decode cX10_odds 92 = .ok (.goto 96, 3) := by decide +kernel
theorem dX10_odds_95 : decode cX10_odds 95 = .ok (.ldc2_w 193, 3) := by decide +kernel
theorem dX10_odds_98 : decode cX10_odds 98 = .ok (.iload_n 3, 1) := by decide +kernel
theorem dX10_odds_99 : decode cX10_odds 99 = .ok (.i2l, 1) := by decide +kernel
theorem dX10_odds_100 : decode cX10_odds 100 = .ok (.lmul, 1) := by decide +kernel
theorem dX10_odds_101 : decode cX10_odds 101 = .ok (.lstore 6, 2) := by decide +kernel
theorem dX10_odds_103 : decode cX10_odds 103 = .ok (.iconst 0, 1) := by decide +kernel
theorem dX10_odds_104 : decode cX10_odds 104 = .ok (.istore 8, 2) := by decide +kernel
theorem dX10_odds_106 : decode cX10_odds 106 = .ok (.iload 8, 2) := by decide +kernel
theorem dX10_odds_108 : decode cX10_odds 108 = .ok (.aload_n 0, 1) := by decide +kernel
theorem dX10_odds_109 : decode cX10_odds 109 = .ok (.getfield 91, 3) := by decide +kernel
theorem dX10_odds_112 : decode cX10_odds 112 = .ok (.aload_n 0, 1) := by decide +kernel
theorem dX10_odds_113 : decode cX10_odds 113 = .ok (.getfield 13, 3) := by decide +kernel
theorem dX10_odds_116 : decode cX10_odds 116 = .ok (.iconst 2, 1) := by decide +kernel
theorem dX10_odds_117 : decode cX10_odds 117 = .ok (.iaload, 1) := by decide +kernel
theorem dX10_odds_118 : decode cX10_odds 118 = .ok (.imul, 1) := by decide +kernel
theorem dX10_odds_119 : decode cX10_odds 119 = .ok (.if_icmp .ge 69, 3) := by decide +kernel
theorem dX10_odds_122 : decode cX10_odds 122 = .ok (.iload 8, 2) := by decide +kernel
theorem dX10_odds_124 : decode cX10_odds 124 = .ok (.aload_n 0, 1) := by decide +kernel
theorem dX10_odds_125 : decode cX10_odds 125 = .ok (.getfield 13, 3) := by decide +kernel
theorem dX10_odds_128 : decode cX10_odds 128 = .ok (.iconst 2, 1) := by decide +kernel
theorem dX10_odds_129 : decode cX10_odds 129 = .ok (.iaload, 1) := by decide +kernel
theorem dX10_odds_130 : decode cX10_odds 130 = .ok (.idiv, 1) := by decide +kernel
theorem dX10_odds_131 : decode cX10_odds 131 = .ok (.istore 9, 2) := by decide +kernel
theorem dX10_odds_133 : decode cX10_odds 133 = .ok (.iload 8, 2) := by decide +kernel
theorem dX10_odds_135 : decode cX10_odds 135 = .ok (.aload_n 0, 1) := by decide +kernel
theorem dX10_odds_136 : decode cX10_odds 136 = .ok (.getfield 13, 3) := by decide +kernel
theorem dX10_odds_139 : decode cX10_odds 139 = .ok (.iconst 2, 1) := by decide +kernel
theorem dX10_odds_140 : decode cX10_odds 140 = .ok (.iaload, 1) := by decide +kernel
theorem dX10_odds_141 : decode cX10_odds 141 = .ok (.irem, 1) := by decide +kernel
theorem dX10_odds_142 : decode cX10_odds 142 = .ok (.iconst 1, 1) := by decide +kernel
theorem dX10_odds_143 : decode cX10_odds 143 = .ok (.iadd, 1) := by decide +kernel
theorem dX10_odds_144 : decode cX10_odds 144 = .ok (.istore 10, 2) := by decide +kernel
theorem dX10_odds_146 : decode cX10_odds 146 = .ok (.aload_n 0, 1) := by decide +kernel
theorem dX10_odds_147 : decode cX10_odds 147 = .ok (.bipush 11, 2) := by decide +kernel
theorem dX10_odds_149 : decode cX10_odds 149 = .ok (.iload 9, 2) := by decide +kernel
theorem dX10_odds_151 : decode cX10_odds 151 = .ok (.iload 10, 2) := by decide +kernel
theorem dX10_odds_153 : decode cX10_odds 153 = .ok (.invokevirtual 127, 3) := by decide +kernel
theorem dX10_odds_156 : decode cX10_odds 156 = .ok (.ifCond .eq 26, 3) := by decide +kernel
theorem dX10_odds_159 : decode cX10_odds 159 = .ok (.aload_n 0, 1) := by decide +kernel
theorem dX10_odds_160 : decode cX10_odds 160 = .ok (.bipush 11, 2) := by decide +kernel
theorem dX10_odds_162 : decode cX10_odds 162 = .ok (.iload 9, 2) := by decide +kernel
theorem dX10_odds_164 : decode cX10_odds 164 = .ok (.iload 10, 2) := by decide +kernel
theorem dX10_odds_166 : decode cX10_odds 166 = .ok (.invokevirtual 137, 3) := by decide +kernel
theorem dX10_odds_169 : decode cX10_odds 169 = .ok (.lload 4, 2) := by decide +kernel
theorem dX10_odds_171 : decode cX10_odds 171 = .ok (.aload_n 0, 1) := by decide +kernel
theorem dX10_odds_172 : decode cX10_odds 172 = .ok (.invokevirtual 200, 3) := by decide +kernel
theorem dX10_odds_175 : decode cX10_odds 175 = .ok (.ladd, 1) := by decide +kernel
theorem dX10_odds_176 : decode cX10_odds 176 = .ok (.lstore 4, 2) := by decide +kernel
theorem dX10_odds_178 : decode cX10_odds 178 = .ok (.aload_n 0, 1) := by decide +kernel
theorem dX10_odds_179 : decode cX10_odds 179 = .ok (.invokevirtual 195, 3) := by decide +kernel
theorem dX10_odds_182 : decode cX10_odds 182 = .ok (.iinc 8 1, 3) := by decide +kernel
theorem dX10_odds_185 : decode cX10_odds 185 = .ok (.goto (-79), 3) := by decide +kernel
theorem dX10_odds_188 : decode cX10_odds 188 = .ok (.lload 4, 2) := by decide +kernel
theorem dX10_odds_190 : decode cX10_odds 190 = .ok (.lstore 8, 2) := by decide +kernel
theorem dX10_odds_192 : decode cX10_odds 192 = .ok (.lload 6, 2) := by decide +kernel
theorem dX10_odds_194 : decode cX10_odds 194 = .ok (.lstore 10, 2) := by decide +kernel
theorem dX10_odds_196 : decode cX10_odds 196 = .ok (.lload 10, 2) := by decide +kernel
theorem dX10_odds_198 : decode cX10_odds 198 = .ok (.lconst 0, 1) := by decide +kernel
theorem dX10_odds_199 : decode cX10_odds 199 = .ok (.lcmp, 1) := by decide +kernel
theorem dX10_odds_200 : decode cX10_odds 200 = .ok (.ifCond .eq 21, 3) := by decide +kernel
theorem dX10_odds_203 : decode cX10_odds 203 = .ok (.lload 8, 2) := by decide +kernel
theorem dX10_odds_205 : decode cX10_odds 205 = .ok (.lload 10, 2) := by decide +kernel
theorem dX10_odds_207 : decode cX10_odds 207 = .ok (.lrem, 1) := by decide +kernel
theorem dX10_odds_208 : decode cX10_odds 208 = .ok (.lstore 12, 2) := by decide +kernel
theorem dX10_odds_210 : decode cX10_odds 210 = .ok (.lload 10, 2) := by decide +kernel
theorem dX10_odds_212 : decode cX10_odds 212 = .ok (.lstore 8, 2) := by decide +kernel
theorem dX10_odds_214 : decode cX10_odds 214 = .ok (.lload 12, 2) := by decide +kernel
theorem dX10_odds_216 : decode cX10_odds 216 = .ok (.lstore 10, 2) := by decide +kernel
theorem dX10_odds_218 : decode cX10_odds 218 = .ok (.goto (-22), 3) := by decide +kernel
theorem dX10_odds_221 : decode cX10_odds 221 = .ok (.iload_n 2, 1) := by decide +kernel
theorem dX10_odds_222 : decode cX10_odds 222 = .ok (.ifCond .ne 11, 3) := by decide +kernel
theorem dX10_odds_225 : decode cX10_odds 225 = .ok (.lload 4, 2) := by decide +kernel
theorem dX10_odds_227 : decode cX10_odds 227 = .ok (.lload 8, 2) := by decide +kernel
theorem dX10_odds_229 : decode cX10_odds 229 = .ok (.ldiv, 1) := by decide +kernel
theorem dX10_odds_230 : decode cX10_odds 230 = .ok (.goto 8, 3) := by decide +kernel
theorem dX10_odds_233 : decode cX10_odds 233 = .ok (.lload 6, 2) := by decide +kernel
theorem dX10_odds_235 : decode cX10_odds 235 = .ok (.lload 8, 2) := by decide +kernel
theorem dX10_odds_237 : decode cX10_odds 237 = .ok (.ldiv, 1) := by decide +kernel
theorem dX10_odds_238 : decode cX10_odds 238 = .ok (.lreturn, 1) := by decide +kernel
def fX10_odds_22 (F : Nat) (t_stones : Int32) (t_told_ : Nat → Int32) (t_touches_ : Nat → Int32) (t_has_ : Nat → Int32) (t_beside_ : Nat → Int32) (p1 : Int32) (p2 : Int32)  (m_t_slot__4 : Nat → Int32) : Option (Int64 × (Nat → Int32)) :=
(some ((-1 : Int64), m_t_slot__4))
def bX10_odds_196 (F : Nat) (t_stones : Int32) (t_told_ : Nat → Int32) (t_touches_ : Nat → Int32) (t_has_ : Nat → Int32) (t_beside_ : Nat → Int32) (p1 : Int32) (p2 : Int32)  (k196 : Int64 → Int64 → Int64 → Int64 → (Nat → Int32) → Option (Int64 × (Nat → Int32))) (x36 : Int64) (x37 : Int64) (x38 : Int64) (x39 : Int64) (m_t_slot__40 : Nat → Int32) : Option (Int64 × (Nat → Int32)) :=
(if (lg_cmp x39 ((0 : Int64))) = 0 then
(if p2 = 0 then
(if x38 = 0 then none else
(some (x36 / x38, m_t_slot__40)))
else
(if x38 = 0 then none else
(some (x37 / x38, m_t_slot__40))))
else
(if x39 = 0 then none else
(jl_let (x38 - x38 / x39 * x39) fun v63 =>
(k196 x36 x37 x39 v63 m_t_slot__40))))
def lX10_odds_196 (F : Nat) (t_stones : Int32) (t_told_ : Nat → Int32) (t_touches_ : Nat → Int32) (t_has_ : Nat → Int32) (t_beside_ : Nat → Int32) (p1 : Int32) (p2 : Int32)  (F2 : Nat) (x36 : Int64) (x37 : Int64) (x38 : Int64) (x39 : Int64) (m_t_slot__40 : Nat → Int32) : Option (Int64 × (Nat → Int32)) := jl_loop5 (bX10_odds_196 F t_stones t_told_ t_touches_ t_has_ t_beside_ p1 p2 ) F2 x36 x37 x38 x39 m_t_slot__40
def fX10_odds_188 (F : Nat) (t_stones : Int32) (t_told_ : Nat → Int32) (t_touches_ : Nat → Int32) (t_has_ : Nat → Int32) (t_beside_ : Nat → Int32) (p1 : Int32) (p2 : Int32)  (x21 : Int64) (x22 : Int64) (m_t_slot__23 : Nat → Int32) : Option (Int64 × (Nat → Int32)) :=
(lX10_odds_196 F t_stones t_told_ t_touches_ t_has_ t_beside_ p1 p2 F x21 x22 x21 x22 m_t_slot__23)
def fX10_odds_76 (F : Nat) (t_stones : Int32) (t_told_ : Nat → Int32) (t_touches_ : Nat → Int32) (t_has_ : Nat → Int32) (t_beside_ : Nat → Int32) (p1 : Int32) (p2 : Int32)  (x31 : Int64) (s32 : Int64) (m_t_slot__33 : Nat → Int32) : Option (Int64 × (Nat → Int32)) :=
(fX10_odds_188 F t_stones t_told_ t_touches_ t_has_ t_beside_ p1 p2 s32 x31 m_t_slot__33)
def fX10_odds_75 (F : Nat) (t_stones : Int32) (t_told_ : Nat → Int32) (t_touches_ : Nat → Int32) (t_has_ : Nat → Int32) (t_beside_ : Nat → Int32) (p1 : Int32) (p2 : Int32)  (x34 : Int64) (m_t_slot__35 : Nat → Int32) : Option (Int64 × (Nat → Int32)) :=
(fX10_odds_76 F t_stones t_told_ t_touches_ t_has_ t_beside_ p1 p2 x34 ((0 : Int64)) m_t_slot__35)
def fX10_odds_55 (F : Nat) (t_stones : Int32) (t_told_ : Nat → Int32) (t_touches_ : Nat → Int32) (t_has_ : Nat → Int32) (t_beside_ : Nat → Int32) (p1 : Int32) (p2 : Int32)  (x13 : Int32) (x14 : Int64) (m_t_slot__15 : Nat → Int32) : Option (Int64 × (Nat → Int32)) :=
(if x13 = 0 then
(if (m_t_slot__15 ((19 : Int32)).toNatClampNeg) = 0 then
(fX10_odds_76 F t_stones t_told_ t_touches_ t_has_ t_beside_ p1 p2 x14 ((80313433200 : Int64)) m_t_slot__15)
else
(fX10_odds_75 F t_stones t_told_ t_touches_ t_has_ t_beside_ p1 p2 x14 m_t_slot__15))
else
(fX10_odds_75 F t_stones t_told_ t_touches_ t_has_ t_beside_ p1 p2 x14 m_t_slot__15))
def bX10_odds_106 (F : Nat) (t_stones : Int32) (t_told_ : Nat → Int32) (t_touches_ : Nat → Int32) (t_has_ : Nat → Int32) (t_beside_ : Nat → Int32) (p1 : Int32) (p2 : Int32)  (k106 : Int64 → Int64 → Int32 → (Nat → Int32) → Option (Int64 × (Nat → Int32))) (x25 : Int64) (x26 : Int64) (x27 : Int32) (m_t_slot__28 : Nat → Int32) : Option (Int64 × (Nat → Int32)) :=
(if (t_stones * (t_told_ ((2 : Int32)).toNatClampNeg)) ≤ x27 then
(fX10_odds_188 F t_stones t_told_ t_touches_ t_has_ t_beside_ p1 p2 x25 x26 m_t_slot__28)
else
(if (t_told_ ((2 : Int32)).toNatClampNeg) = 0 then none else
(jl_let (x27 / (t_told_ ((2 : Int32)).toNatClampNeg)) fun v43 =>
(if (t_told_ ((2 : Int32)).toNatClampNeg) = 0 then none else
(jl_let ((x27 - x27 / (t_told_ ((2 : Int32)).toNatClampNeg) * (t_told_ ((2 : Int32)).toNatClampNeg)) + ((1 : Int32))) fun v45 =>
((fX10_isMay F t_stones t_touches_ t_has_ t_beside_ m_t_slot__28 ((11 : Int32)) v43 v45).bind fun r46 =>
(if r46 = 0 then
(jl_let (x27 + Int32.ofInt (1)) fun v49 =>
(k106 x25 x26 v49 m_t_slot__28))
else
((fX10_paints m_t_slot__28 ((11 : Int32)) v43 v45).bind fun r50 =>
((fX10_stuckNext F t_stones t_told_ t_touches_ t_has_ t_beside_ r50).bind fun r52 =>
(jl_let (x25 + r52.1) fun v54 =>
((fX10_takesBack r52.2).bind fun r55 =>
(jl_let (x27 + Int32.ofInt (1)) fun v57 =>
(k106 v54 x26 v57 r55)))))))))))))
def lX10_odds_106 (F : Nat) (t_stones : Int32) (t_told_ : Nat → Int32) (t_touches_ : Nat → Int32) (t_has_ : Nat → Int32) (t_beside_ : Nat → Int32) (p1 : Int32) (p2 : Int32)  (F2 : Nat) (x25 : Int64) (x26 : Int64) (x27 : Int32) (m_t_slot__28 : Nat → Int32) : Option (Int64 × (Nat → Int32)) := jl_loop4 (bX10_odds_106 F t_stones t_told_ t_touches_ t_has_ t_beside_ p1 p2 ) F2 x25 x26 x27 m_t_slot__28
def fX10_odds (F : Nat) (t_stones : Int32) (t_told_ : Nat → Int32) (t_touches_ : Nat → Int32) (t_has_ : Nat → Int32) (t_beside_ : Nat → Int32) (t_slot_ : Nat → Int32) (p1 : Int32) (p2 : Int32) : Option (Int64 × (Nat → Int32)) :=
((fX10_in p1.toInt64 ((0 : Int64)) ((2 : Int64))).bind fun r1 =>
(if r1 = 0 then
(fX10_odds_22 F t_stones t_told_ t_touches_ t_has_ t_beside_ p1 p2 t_slot_)
else
((fX10_in p2.toInt64 ((0 : Int64)) ((1 : Int64))).bind fun r5 =>
(if r5 = 0 then
(fX10_odds_22 F t_stones t_told_ t_touches_ t_has_ t_beside_ p1 p2 t_slot_)
else
((fX10_copies F t_slot_ ((0 : Int32)) ((11 : Int32))).bind fun r8 =>
((fX10_mays F t_stones t_told_ t_touches_ t_has_ t_beside_ r8 ((0 : Int32))).bind fun r10 =>
(if r10 = 0 then
(fX10_odds_55 F t_stones t_told_ t_touches_ t_has_ t_beside_ p1 p2 r10 ((80313433200 : Int64)) r8)
else
(if p1 = 0 then
(fX10_odds_55 F t_stones t_told_ t_touches_ t_has_ t_beside_ p1 p2 r10 ((80313433200 : Int64)) r8)
else
(if p1 = ((1 : Int32)) then
((fX10_stuckNext F t_stones t_told_ t_touches_ t_has_ t_beside_ r8).bind fun r18 =>
(jl_let r18.1 fun v20 =>
(fX10_odds_188 F t_stones t_told_ t_touches_ t_has_ t_beside_ p1 p2 v20 ((80313433200 : Int64)) r18.2)))
else
(jl_let (((80313433200 : Int64)) * r10.toInt64) fun v24 =>
(lX10_odds_106 F t_stones t_told_ t_touches_ t_has_ t_beside_ p1 p2 F ((0 : Int64)) v24 ((0 : Int32)) r8)))))))))))
def oX10_odds (D : jv_D) (h_t : Nat) (h_t_text : Nat) (h_t_told : Nat) (h_t_touches : Nat) (h_t_has : Nat) (h_t_old : Nat) (h_t_beside : Nat) (h_t_slot : Nat) (h_t_row : Nat) (h_t_free : Nat) (h_t_worth : Nat) (h_t_fore : Nat) (h_t_back : Nat) (h_t_got : Nat) (t_length : Int32) (t_at : Int32) (t_stones : Int32) (t_kept : Int32) (t_done : Int32) (t_rows : Int32) (t_frees : Int32) (t_fewest : Int32) (t_told_ : Nat → Int32) (t_touches_ : Nat → Int32) (t_has_ : Nat → Int32) (t_beside_ : Nat → Int32) (r : Int64 × (Nat → Int32)) : va_W := [(h_t, .inr (8, [.int t_length, .ref h_t_text, .int t_at, .ref h_t_told, .ref h_t_touches, .ref h_t_has, .ref h_t_old, .ref h_t_beside, .int t_stones, .ref h_t_slot, .int t_kept, .int t_done, .int t_rows, .ref h_t_row, .ref h_t_free, .int t_frees, .ref h_t_worth, .ref h_t_fore, .ref h_t_back, .int t_fewest, .ref h_t_got])), (h_t_told, jI D 8 t_told_), (h_t_touches, jZ D 32 t_touches_), (h_t_has, jI D 4 t_has_), (h_t_beside, jI D 9 t_beside_), (h_t_slot, jI D 240 r.2)]
set_option maxHeartbeats 40000000 in
set_option maxRecDepth 100000 in
theorem mX10_odds (l : Launch) (D : jv_D) (F : Nat) (h_t : Nat) (h_t_text : Nat) (h_t_told : Nat) (h_t_touches : Nat) (h_t_has : Nat) (h_t_old : Nat) (h_t_beside : Nat) (h_t_slot : Nat) (h_t_row : Nat) (h_t_free : Nat) (h_t_worth : Nat) (h_t_fore : Nat) (h_t_back : Nat) (h_t_got : Nat) (t_length : Int32) (t_at : Int32) (t_stones : Int32) (t_kept : Int32) (t_done : Int32) (t_rows : Int32) (t_frees : Int32) (t_fewest : Int32) (t_told_ : Nat → Int32) (t_touches_ : Nat → Int32) (t_has_ : Nat → Int32) (t_beside_ : Nat → Int32) (t_slot_ : Nat → Int32) (p1 : Int32) (p2 : Int32) (r : Int64 × (Nat → Int32)) (h : fX10_odds F t_stones t_told_ t_touches_ t_has_ t_beside_ t_slot_ p1 p2 = some r) : MM l yX10_odds (jW yX10_odds cX10_odds 14 (some .long)) ({ frames := 4, cells := 0, slots := 0, locals := 99 }) D [.ref h_t, .int p1, .int p2] [(h_t, .inr (8, [.int t_length, .ref h_t_text, .int t_at, .ref h_t_told, .ref h_t_touches, .ref h_t_has, .ref h_t_old, .ref h_t_beside, .int t_stones, .ref h_t_slot, .int t_kept, .int t_done, .int t_rows, .ref h_t_row, .ref h_t_free, .int t_frees, .ref h_t_worth, .ref h_t_fore, .ref h_t_back, .int t_fewest, .ref h_t_got])), (h_t_told, jI D 8 t_told_), (h_t_touches, jZ D 32 t_touches_), (h_t_has, jI D 4 t_has_), (h_t_beside, jI D 9 t_beside_), (h_t_slot, jI D 240 t_slot_)] (some (.long r.1)) (oX10_odds D h_t h_t_text h_t_told h_t_touches h_t_has h_t_old h_t_beside h_t_slot h_t_row h_t_free h_t_worth h_t_fore h_t_back h_t_got t_length t_at t_stones t_kept t_done t_rows t_frees t_fewest t_told_ t_touches_ t_has_ t_beside_ r) := by
  refine mn_of hpX10_odds (Nat.le_of_ble_eq_true rfl) ?_
  intro X hXl C E0 hN
  subst hXl
  replace C : JC D X 14 RX10 cX10_odds ({ frames := 4, cells := 0, slots := 0, locals := 99 }) := C
  have E : JE D X 0 0 (some .long) (fun _ : Unit => (some (.long r.1))) (fun _ : Unit => (oX10_odds D h_t h_t_text h_t_told h_t_touches h_t_has h_t_old h_t_beside h_t_slot h_t_row h_t_free h_t_worth h_t_fore h_t_back h_t_got t_length t_at t_stones t_kept t_done t_rows t_frees t_fewest t_told_ t_touches_ t_has_ t_beside_ r)) := E0 0 0 rfl rfl
  clear E0 hN
  show JJ D X 14 0 0 0 [(0, .ref h_t), (1, .int p1), (2, .int p2)] [] [(h_t, .inr (8, [.int t_length, .ref h_t_text, .int t_at, .ref h_t_told, .ref h_t_touches, .ref h_t_has, .ref h_t_old, .ref h_t_beside, .int t_stones, .ref h_t_slot, .int t_kept, .int t_done, .int t_rows, .ref h_t_row, .ref h_t_free, .int t_frees, .ref h_t_worth, .ref h_t_fore, .ref h_t_back, .int t_fewest, .ref h_t_got])), (h_t_told, jI D 8 t_told_), (h_t_touches, jZ D 32 t_touches_), (h_t_has, jI D 4 t_has_), (h_t_beside, jI D 9 t_beside_), (h_t_slot, jI D 240 t_slot_)]
  unfold fX10_odds at h
  have L22 : ∀ (m_t_slot__4 : Nat → Int32), fX10_odds_22 F t_stones t_told_ t_touches_ t_has_ t_beside_ p1 p2  m_t_slot__4 = some r → JJ D X 14 0 0 22 [] [] [(h_t, .inr (8, [.int t_length, .ref h_t_text, .int t_at, .ref h_t_told, .ref h_t_touches, .ref h_t_has, .ref h_t_old, .ref h_t_beside, .int t_stones, .ref h_t_slot, .int t_kept, .int t_done, .int t_rows, .ref h_t_row, .ref h_t_free, .int t_frees, .ref h_t_worth, .ref h_t_fore, .ref h_t_back, .int t_fewest, .ref h_t_got])), (h_t_told, jI D 8 t_told_), (h_t_touches, jZ D 32 t_touches_), (h_t_has, jI D 4 t_has_), (h_t_beside, jI D 9 t_beside_), (h_t_slot, jI D 240 m_t_slot__4)] := by
    intro m_t_slot__4 h
    unfold fX10_odds_22 at h
    refine j_ldc2_w C bKX10_198 dX10_odds_22 ?_
    exact j_lretR C (r := r) (rtf := fun r => (some (.long r.1))) (wff := fun r => (oX10_odds D h_t h_t_text h_t_told h_t_touches h_t_has h_t_old h_t_beside h_t_slot h_t_row h_t_free h_t_worth h_t_fore h_t_back h_t_got t_length t_at t_stones t_kept t_done t_rows t_frees t_fewest t_told_ t_touches_ t_has_ t_beside_ r)) E h rfl rfl dX10_odds_25
  have L196 : ∀ (x36 : Int64) (x37 : Int64) (x38 : Int64) (x39 : Int64) (m_t_slot__40 : Nat → Int32), lX10_odds_196 F t_stones t_told_ t_touches_ t_has_ t_beside_ p1 p2  F x36 x37 x38 x39 m_t_slot__40 = some r → JJ D X 14 0 0 196 [(2, .int p2), (4, .long x36), (6, .long x37), (8, .long x38), (10, .long x39)] [] [(h_t, .inr (8, [.int t_length, .ref h_t_text, .int t_at, .ref h_t_told, .ref h_t_touches, .ref h_t_has, .ref h_t_old, .ref h_t_beside, .int t_stones, .ref h_t_slot, .int t_kept, .int t_done, .int t_rows, .ref h_t_row, .ref h_t_free, .int t_frees, .ref h_t_worth, .ref h_t_fore, .ref h_t_back, .int t_fewest, .ref h_t_got])), (h_t_told, jI D 8 t_told_), (h_t_touches, jZ D 32 t_touches_), (h_t_has, jI D 4 t_has_), (h_t_beside, jI D 9 t_beside_), (h_t_slot, jI D 240 m_t_slot__40)] := by
    intro x36 x37 x38 x39 m_t_slot__40 h
    refine jl_ind5 (fun x36 x37 x38 x39 m_t_slot__40 => JJ D X 14 0 0 196 [(2, .int p2), (4, .long x36), (6, .long x37), (8, .long x38), (10, .long x39)] [] [(h_t, .inr (8, [.int t_length, .ref h_t_text, .int t_at, .ref h_t_told, .ref h_t_touches, .ref h_t_has, .ref h_t_old, .ref h_t_beside, .int t_stones, .ref h_t_slot, .int t_kept, .int t_done, .int t_rows, .ref h_t_row, .ref h_t_free, .int t_frees, .ref h_t_worth, .ref h_t_fore, .ref h_t_back, .int t_fewest, .ref h_t_got])), (h_t_told, jI D 8 t_told_), (h_t_touches, jZ D 32 t_touches_), (h_t_has, jI D 4 t_has_), (h_t_beside, jI D 9 t_beside_), (h_t_slot, jI D 240 m_t_slot__40)]) ?_ F x36 x37 x38 x39 m_t_slot__40 h
    clear h x36 x37 x38 x39 m_t_slot__40
    intro k196 i196 x36 x37 x38 x39 m_t_slot__40 h
    replace i196 : ∀ (x36 : Int64) (x37 : Int64) (x38 : Int64) (x39 : Int64) (m_t_slot__40 : Nat → Int32), k196 x36 x37 x38 x39 m_t_slot__40 = some r → JJ D X 14 0 0 196 [(2, .int p2), (4, .long x36), (6, .long x37), (8, .long x38), (10, .long x39)] [] [(h_t, .inr (8, [.int t_length, .ref h_t_text, .int t_at, .ref h_t_told, .ref h_t_touches, .ref h_t_has, .ref h_t_old, .ref h_t_beside, .int t_stones, .ref h_t_slot, .int t_kept, .int t_done, .int t_rows, .ref h_t_row, .ref h_t_free, .int t_frees, .ref h_t_worth, .ref h_t_fore, .ref h_t_back, .int t_fewest, .ref h_t_got])), (h_t_told, jI D 8 t_told_), (h_t_touches, jZ D 32 t_touches_), (h_t_has, jI D 4 t_has_), (h_t_beside, jI D 9 t_beside_), (h_t_slot, jI D 240 m_t_slot__40)] := i196
    show JJ D X 14 0 0 196 [(2, .int p2), (4, .long x36), (6, .long x37), (8, .long x38), (10, .long x39)] [] [(h_t, .inr (8, [.int t_length, .ref h_t_text, .int t_at, .ref h_t_told, .ref h_t_touches, .ref h_t_has, .ref h_t_old, .ref h_t_beside, .int t_stones, .ref h_t_slot, .int t_kept, .int t_done, .int t_rows, .ref h_t_row, .ref h_t_free, .int t_frees, .ref h_t_worth, .ref h_t_fore, .ref h_t_back, .int t_fewest, .ref h_t_got])), (h_t_told, jI D 8 t_told_), (h_t_touches, jZ D 32 t_touches_), (h_t_has, jI D 4 t_has_), (h_t_beside, jI D 9 t_beside_), (h_t_slot, jI D 240 m_t_slot__40)]
    unfold bX10_odds_196 at h
    refine j_lload C dX10_odds_196 4 rfl ?_
    refine j_lconst C dX10_odds_198 (v := (0 : Int64)) (by decide) ?_
    refine j_lcmp C dX10_odds_199 ?_
    refine j_if_eq C (tgt := 221) dX10_odds_200 (by decide) h (fun c58 h => ?_) (fun c58 h => ?_)
    · refine j_iload_n C dX10_odds_221 rfl 0 rfl ?_
      refine j_if_ne C (tgt := 233) dX10_odds_222 (by decide) h (fun c59 h => ?_) (fun c59 h => ?_)
      · refine j_lload C dX10_odds_225 1 rfl ?_
        refine j_lload C dX10_odds_227 3 rfl ?_
        refine jl_grd h (fun b60 h => ?_)
        refine j_ldiv C dX10_odds_229 b60 ?_
        refine j_goto C dX10_odds_230 (tgt := 238) (by decide) ?_
        exact j_lretR C (r := r) (rtf := fun r => (some (.long r.1))) (wff := fun r => (oX10_odds D h_t h_t_text h_t_told h_t_touches h_t_has h_t_old h_t_beside h_t_slot h_t_row h_t_free h_t_worth h_t_fore h_t_back h_t_got t_length t_at t_stones t_kept t_done t_rows t_frees t_fewest t_told_ t_touches_ t_has_ t_beside_ r)) E h rfl rfl dX10_odds_238
      · refine j_lload C dX10_odds_233 2 rfl ?_
        refine j_lload C dX10_odds_235 3 rfl ?_
        refine jl_grd h (fun b61 h => ?_)
        refine j_ldiv C dX10_odds_237 b61 ?_
        exact j_lretR C (r := r) (rtf := fun r => (some (.long r.1))) (wff := fun r => (oX10_odds D h_t h_t_text h_t_told h_t_touches h_t_has h_t_old h_t_beside h_t_slot h_t_row h_t_free h_t_worth h_t_fore h_t_back h_t_got t_length t_at t_stones t_kept t_done t_rows t_frees t_fewest t_told_ t_touches_ t_has_ t_beside_ r)) E h rfl rfl dX10_odds_238
    · refine j_lload C dX10_odds_203 3 rfl ?_
      refine j_lload C dX10_odds_205 4 rfl ?_
      refine jl_grd h (fun b62 h => ?_)
      refine j_lrem C dX10_odds_207 b62 ?_
      refine j_lstore C dX10_odds_208 (lv' := fun v63 => [(12, .long v63), (2, .int p2), (4, .long x36), (6, .long x37), (8, .long x38), (10, .long x39)]) (by decide) (fun _ => rfl) h (fun v63 h => ?_)
      refine j_lload C dX10_odds_210 5 rfl ?_
      refine j_lstoreC C dX10_odds_212 (lv' := [(8, .long x39), (12, .long v63), (2, .int p2), (4, .long x36), (6, .long x37), (10, .long x39)]) (by decide) rfl ?_
      refine j_lload C dX10_odds_214 1 rfl ?_
      refine j_lstoreC C dX10_odds_216 (lv' := [(10, .long v63), (8, .long x39), (12, .long v63), (2, .int p2), (4, .long x36), (6, .long x37)]) (by decide) rfl ?_
      refine j_goto C dX10_odds_218 (tgt := 196) (by decide) ?_
      refine j_sub (lv' := [(2, .int p2), (4, .long x36), (6, .long x37), (8, .long x39), (10, .long v63)]) [3, 4, 5, 1, 0] rfl ?_
      exact i196 x36 x37 x39 v63 m_t_slot__40 h
  have L188 : ∀ (x21 : Int64) (x22 : Int64) (m_t_slot__23 : Nat → Int32), fX10_odds_188 F t_stones t_told_ t_touches_ t_has_ t_beside_ p1 p2  x21 x22 m_t_slot__23 = some r → JJ D X 14 0 0 188 [(2, .int p2), (4, .long x21), (6, .long x22)] [] [(h_t, .inr (8, [.int t_length, .ref h_t_text, .int t_at, .ref h_t_told, .ref h_t_touches, .ref h_t_has, .ref h_t_old, .ref h_t_beside, .int t_stones, .ref h_t_slot, .int t_kept, .int t_done, .int t_rows, .ref h_t_row, .ref h_t_free, .int t_frees, .ref h_t_worth, .ref h_t_fore, .ref h_t_back, .int t_fewest, .ref h_t_got])), (h_t_told, jI D 8 t_told_), (h_t_touches, jZ D 32 t_touches_), (h_t_has, jI D 4 t_has_), (h_t_beside, jI D 9 t_beside_), (h_t_slot, jI D 240 m_t_slot__23)] := by
    intro x21 x22 m_t_slot__23 h
    unfold fX10_odds_188 at h
    refine j_lload C dX10_odds_188 1 rfl ?_
    refine j_lstoreC C dX10_odds_190 (lv' := [(8, .long x21), (2, .int p2), (4, .long x21), (6, .long x22)]) (by decide) rfl ?_
    refine j_lload C dX10_odds_192 3 rfl ?_
    refine j_lstoreC C dX10_odds_194 (lv' := [(10, .long x22), (8, .long x21), (2, .int p2), (4, .long x21), (6, .long x22)]) (by decide) rfl ?_
    refine j_sub (lv' := [(2, .int p2), (4, .long x21), (6, .long x22), (8, .long x21), (10, .long x22)]) [2, 3, 4, 1, 0] rfl ?_
    exact L196 x21 x22 x21 x22 m_t_slot__23 h
  have L76 : ∀ (x31 : Int64) (s32 : Int64) (m_t_slot__33 : Nat → Int32), fX10_odds_76 F t_stones t_told_ t_touches_ t_has_ t_beside_ p1 p2  x31 s32 m_t_slot__33 = some r → JJ D X 14 0 0 76 [(2, .int p2), (6, .long x31)] [.long s32] [(h_t, .inr (8, [.int t_length, .ref h_t_text, .int t_at, .ref h_t_told, .ref h_t_touches, .ref h_t_has, .ref h_t_old, .ref h_t_beside, .int t_stones, .ref h_t_slot, .int t_kept, .int t_done, .int t_rows, .ref h_t_row, .ref h_t_free, .int t_frees, .ref h_t_worth, .ref h_t_fore, .ref h_t_back, .int t_fewest, .ref h_t_got])), (h_t_told, jI D 8 t_told_), (h_t_touches, jZ D 32 t_touches_), (h_t_has, jI D 4 t_has_), (h_t_beside, jI D 9 t_beside_), (h_t_slot, jI D 240 m_t_slot__33)] := by
    intro x31 s32 m_t_slot__33 h
    unfold fX10_odds_76 at h
    refine j_lstoreC C dX10_odds_76 (lv' := [(4, .long s32), (2, .int p2), (6, .long x31)]) (by decide) rfl ?_
    refine j_goto C dX10_odds_78 (tgt := 188) (by decide) ?_
    refine j_sub (lv' := [(2, .int p2), (4, .long s32), (6, .long x31)]) [1, 0, 2] rfl ?_
    exact L188 s32 x31 m_t_slot__33 h
  have L75 : ∀ (x34 : Int64) (m_t_slot__35 : Nat → Int32), fX10_odds_75 F t_stones t_told_ t_touches_ t_has_ t_beside_ p1 p2  x34 m_t_slot__35 = some r → JJ D X 14 0 0 75 [(2, .int p2), (6, .long x34)] [] [(h_t, .inr (8, [.int t_length, .ref h_t_text, .int t_at, .ref h_t_told, .ref h_t_touches, .ref h_t_has, .ref h_t_old, .ref h_t_beside, .int t_stones, .ref h_t_slot, .int t_kept, .int t_done, .int t_rows, .ref h_t_row, .ref h_t_free, .int t_frees, .ref h_t_worth, .ref h_t_fore, .ref h_t_back, .int t_fewest, .ref h_t_got])), (h_t_told, jI D 8 t_told_), (h_t_touches, jZ D 32 t_touches_), (h_t_has, jI D 4 t_has_), (h_t_beside, jI D 9 t_beside_), (h_t_slot, jI D 240 m_t_slot__35)] := by
    intro x34 m_t_slot__35 h
    unfold fX10_odds_75 at h
    refine j_lconst C dX10_odds_75 (v := (0 : Int64)) (by decide) ?_
    refine j_sub (lv' := [(2, .int p2), (6, .long x34)]) [0, 1] rfl ?_
    exact L76 x34 ((0 : Int64)) m_t_slot__35 h
  have L55 : ∀ (x13 : Int32) (x14 : Int64) (m_t_slot__15 : Nat → Int32), fX10_odds_55 F t_stones t_told_ t_touches_ t_has_ t_beside_ p1 p2  x13 x14 m_t_slot__15 = some r → JJ D X 14 0 0 55 [(0, .ref h_t), (2, .int p2), (3, .int x13), (6, .long x14)] [] [(h_t, .inr (8, [.int t_length, .ref h_t_text, .int t_at, .ref h_t_told, .ref h_t_touches, .ref h_t_has, .ref h_t_old, .ref h_t_beside, .int t_stones, .ref h_t_slot, .int t_kept, .int t_done, .int t_rows, .ref h_t_row, .ref h_t_free, .int t_frees, .ref h_t_worth, .ref h_t_fore, .ref h_t_back, .int t_fewest, .ref h_t_got])), (h_t_told, jI D 8 t_told_), (h_t_touches, jZ D 32 t_touches_), (h_t_has, jI D 4 t_has_), (h_t_beside, jI D 9 t_beside_), (h_t_slot, jI D 240 m_t_slot__15)] := by
    intro x13 x14 m_t_slot__15 h
    unfold fX10_odds_55 at h
    refine j_iload_n C dX10_odds_55 rfl 2 rfl ?_
    refine j_if_ne C (tgt := 75) dX10_odds_56 (by decide) h (fun c29 h => ?_) (fun c29 h => ?_)
    · refine j_aload_n C dX10_odds_59 rfl 0 rfl ?_
      refine j_get C ibX10 (ci := 8) 0 rfl rfl 9 (by decide) bfX10_30 (v := .ref h_t_slot) rfl dX10_odds_60 ?_
      refine j_bipush C dX10_odds_63 (v := (19 : Int32)) (by decide) ?_
      refine j_iald C 5 rfl (by unfold vp_in; decide) dX10_odds_65 ?_
      refine j_if_ne C (tgt := 75) dX10_odds_66 (by decide) h (fun c30 h => ?_) (fun c30 h => ?_)
      · refine j_ldc2_w C bKX10_193 dX10_odds_69 ?_
        refine j_goto C dX10_odds_72 (tgt := 76) (by decide) ?_
        refine j_sub (lv' := [(2, .int p2), (6, .long x14)]) [1, 3] rfl ?_
        exact L76 x14 ((80313433200 : Int64)) m_t_slot__15 h
      · refine j_sub (lv' := [(2, .int p2), (6, .long x14)]) [1, 3] rfl ?_
        exact L75 x14 m_t_slot__15 h
    · refine j_sub (lv' := [(2, .int p2), (6, .long x14)]) [1, 3] rfl ?_
      exact L75 x14 m_t_slot__15 h
  have L106 : ∀ (x25 : Int64) (x26 : Int64) (x27 : Int32) (m_t_slot__28 : Nat → Int32), lX10_odds_106 F t_stones t_told_ t_touches_ t_has_ t_beside_ p1 p2  F x25 x26 x27 m_t_slot__28 = some r → JJ D X 14 0 0 106 [(0, .ref h_t), (2, .int p2), (4, .long x25), (6, .long x26), (8, .int x27)] [] [(h_t, .inr (8, [.int t_length, .ref h_t_text, .int t_at, .ref h_t_told, .ref h_t_touches, .ref h_t_has, .ref h_t_old, .ref h_t_beside, .int t_stones, .ref h_t_slot, .int t_kept, .int t_done, .int t_rows, .ref h_t_row, .ref h_t_free, .int t_frees, .ref h_t_worth, .ref h_t_fore, .ref h_t_back, .int t_fewest, .ref h_t_got])), (h_t_told, jI D 8 t_told_), (h_t_touches, jZ D 32 t_touches_), (h_t_has, jI D 4 t_has_), (h_t_beside, jI D 9 t_beside_), (h_t_slot, jI D 240 m_t_slot__28)] := by
    intro x25 x26 x27 m_t_slot__28 h
    refine jl_ind4 (fun x25 x26 x27 m_t_slot__28 => JJ D X 14 0 0 106 [(0, .ref h_t), (2, .int p2), (4, .long x25), (6, .long x26), (8, .int x27)] [] [(h_t, .inr (8, [.int t_length, .ref h_t_text, .int t_at, .ref h_t_told, .ref h_t_touches, .ref h_t_has, .ref h_t_old, .ref h_t_beside, .int t_stones, .ref h_t_slot, .int t_kept, .int t_done, .int t_rows, .ref h_t_row, .ref h_t_free, .int t_frees, .ref h_t_worth, .ref h_t_fore, .ref h_t_back, .int t_fewest, .ref h_t_got])), (h_t_told, jI D 8 t_told_), (h_t_touches, jZ D 32 t_touches_), (h_t_has, jI D 4 t_has_), (h_t_beside, jI D 9 t_beside_), (h_t_slot, jI D 240 m_t_slot__28)]) ?_ F x25 x26 x27 m_t_slot__28 h
    clear h x25 x26 x27 m_t_slot__28
    intro k106 i106 x25 x26 x27 m_t_slot__28 h
    replace i106 : ∀ (x25 : Int64) (x26 : Int64) (x27 : Int32) (m_t_slot__28 : Nat → Int32), k106 x25 x26 x27 m_t_slot__28 = some r → JJ D X 14 0 0 106 [(0, .ref h_t), (2, .int p2), (4, .long x25), (6, .long x26), (8, .int x27)] [] [(h_t, .inr (8, [.int t_length, .ref h_t_text, .int t_at, .ref h_t_told, .ref h_t_touches, .ref h_t_has, .ref h_t_old, .ref h_t_beside, .int t_stones, .ref h_t_slot, .int t_kept, .int t_done, .int t_rows, .ref h_t_row, .ref h_t_free, .int t_frees, .ref h_t_worth, .ref h_t_fore, .ref h_t_back, .int t_fewest, .ref h_t_got])), (h_t_told, jI D 8 t_told_), (h_t_touches, jZ D 32 t_touches_), (h_t_has, jI D 4 t_has_), (h_t_beside, jI D 9 t_beside_), (h_t_slot, jI D 240 m_t_slot__28)] := i106
    show JJ D X 14 0 0 106 [(0, .ref h_t), (2, .int p2), (4, .long x25), (6, .long x26), (8, .int x27)] [] [(h_t, .inr (8, [.int t_length, .ref h_t_text, .int t_at, .ref h_t_told, .ref h_t_touches, .ref h_t_has, .ref h_t_old, .ref h_t_beside, .int t_stones, .ref h_t_slot, .int t_kept, .int t_done, .int t_rows, .ref h_t_row, .ref h_t_free, .int t_frees, .ref h_t_worth, .ref h_t_fore, .ref h_t_back, .int t_fewest, .ref h_t_got])), (h_t_told, jI D 8 t_told_), (h_t_touches, jZ D 32 t_touches_), (h_t_has, jI D 4 t_has_), (h_t_beside, jI D 9 t_beside_), (h_t_slot, jI D 240 m_t_slot__28)]
    unfold bX10_odds_106 at h
    refine j_iload C dX10_odds_106 4 rfl ?_
    refine j_aload_n C dX10_odds_108 rfl 0 rfl ?_
    refine j_get C ibX10 (ci := 8) 0 rfl rfl 8 (by decide) bfX10_91 (v := .int t_stones) rfl dX10_odds_109 ?_
    refine j_aload_n C dX10_odds_112 rfl 0 rfl ?_
    refine j_get C ibX10 (ci := 8) 0 rfl rfl 3 (by decide) bfX10_13 (v := .ref h_t_told) rfl dX10_odds_113 ?_
    refine j_iconst C dX10_odds_116 (v := (2 : Int32)) (by decide) ?_
    refine j_iald C 1 rfl (by unfold vp_in; decide) dX10_odds_117 ?_
    refine j_imul C dX10_odds_118 ?_
    refine j_icmp_ge C (tgt := 188) dX10_odds_119 (by decide) h (fun c41 h => ?_) (fun c41 h => ?_)
    · refine j_sub (lv' := [(2, .int p2), (4, .long x25), (6, .long x26)]) [1, 2, 3] rfl ?_
      exact L188 x25 x26 m_t_slot__28 h
    · refine j_iload C dX10_odds_122 4 rfl ?_
      refine j_aload_n C dX10_odds_124 rfl 0 rfl ?_
      refine j_get C ibX10 (ci := 8) 0 rfl rfl 3 (by decide) bfX10_13 (v := .ref h_t_told) rfl dX10_odds_125 ?_
      refine j_iconst C dX10_odds_128 (v := (2 : Int32)) (by decide) ?_
      refine j_iald C 1 rfl (by unfold vp_in; decide) dX10_odds_129 ?_
      refine jl_grd h (fun b42 h => ?_)
      refine j_idiv C dX10_odds_130 b42 ?_
      refine j_istore C dX10_odds_131 (lv' := fun v43 => [(9, .int v43), (0, .ref h_t), (2, .int p2), (4, .long x25), (6, .long x26), (8, .int x27)]) (by decide) (fun _ => rfl) h (fun v43 h => ?_)
      refine j_iload C dX10_odds_133 5 rfl ?_
      refine j_aload_n C dX10_odds_135 rfl 1 rfl ?_
      refine j_get C ibX10 (ci := 8) 0 rfl rfl 3 (by decide) bfX10_13 (v := .ref h_t_told) rfl dX10_odds_136 ?_
      refine j_iconst C dX10_odds_139 (v := (2 : Int32)) (by decide) ?_
      refine j_iald C 1 rfl (by unfold vp_in; decide) dX10_odds_140 ?_
      refine jl_grd h (fun b44 h => ?_)
      refine j_irem C dX10_odds_141 b44 ?_
      refine j_iconst C dX10_odds_142 (v := (1 : Int32)) (by decide) ?_
      refine j_iadd C dX10_odds_143 ?_
      refine j_istore C dX10_odds_144 (lv' := fun v45 => [(10, .int v45), (9, .int v43), (0, .ref h_t), (2, .int p2), (4, .long x25), (6, .long x26), (8, .int x27)]) (by decide) (fun _ => rfl) h (fun v45 h => ?_)
      refine j_aload_n C dX10_odds_146 rfl 2 rfl ?_
      refine j_bipush C dX10_odds_147 (v := (11 : Int32)) (by decide) ?_
      refine j_iload C dX10_odds_149 1 rfl ?_
      refine j_iload C dX10_odds_151 0 rfl ?_
      obtain ⟨r46, q47, h⟩ := jl_bind h
      refine j_cV1 C (mX10_isMay (jlaunch X) D F h_t h_t_text h_t_told h_t_touches h_t_has h_t_old h_t_beside h_t_slot h_t_row h_t_free h_t_worth h_t_fore h_t_back h_t_got t_length t_at t_stones t_kept t_done t_rows t_frees t_fewest t_touches_ t_has_ t_beside_ m_t_slot__28 ((11 : Int32)) v43 v45 r46 q47) bmX10_127 biX10_isMay bsX10_isMay bzX10 bcX10_isMay rfl hX10_isMay (rest := []) rfl (jroom_of rfl) 0 (ci := 8) rfl rfl rfl [0, 2, 3, 4, 5] [1] [1, 0, 2, 3, 4, 5] (wr := [(h_t_told, jI D 8 t_told_)]) (ws2 := [(h_t, .inr (8, [.int t_length, .ref h_t_text, .int t_at, .ref h_t_told, .ref h_t_touches, .ref h_t_has, .ref h_t_old, .ref h_t_beside, .int t_stones, .ref h_t_slot, .int t_kept, .int t_done, .int t_rows, .ref h_t_row, .ref h_t_free, .int t_frees, .ref h_t_worth, .ref h_t_fore, .ref h_t_back, .int t_fewest, .ref h_t_got])), (h_t_told, jI D 8 t_told_), (h_t_touches, jZ D 32 t_touches_), (h_t_has, jI D 4 t_has_), (h_t_beside, jI D 9 t_beside_), (h_t_slot, jI D 240 m_t_slot__28)]) rfl rfl rfl rfl rfl (Nat.le_of_ble_eq_true rfl) dX10_odds_153 ?_
      refine j_if_eq C (tgt := 182) dX10_odds_156 (by decide) h (fun c48 h => ?_) (fun c48 h => ?_)
      · refine j_iinc C dX10_odds_182 6 rfl (lv' := fun v49 => [(8, .int v49), (10, .int v45), (9, .int v43), (0, .ref h_t), (2, .int p2), (4, .long x25), (6, .long x26)]) (by decide) (fun _ => rfl) h (fun v49 h => ?_)
        refine j_goto C dX10_odds_185 (tgt := 106) (by decide) ?_
        refine j_sub (lv' := [(0, .ref h_t), (2, .int p2), (4, .long x25), (6, .long x26), (8, .int v49)]) [3, 4, 5, 6, 0] rfl ?_
        exact i106 x25 x26 v49 m_t_slot__28 h
      · refine j_aload_n C dX10_odds_159 rfl 2 rfl ?_
        refine j_bipush C dX10_odds_160 (v := (11 : Int32)) (by decide) ?_
        refine j_iload C dX10_odds_162 1 rfl ?_
        refine j_iload C dX10_odds_164 0 rfl ?_
        obtain ⟨r50, q51, h⟩ := jl_bind h
        refine j_cV0 C (mX10_paints (jlaunch X) D h_t h_t_text h_t_told h_t_touches h_t_has h_t_old h_t_beside h_t_slot h_t_row h_t_free h_t_worth h_t_fore h_t_back h_t_got t_length t_at t_stones t_kept t_done t_rows t_frees t_fewest m_t_slot__28 ((11 : Int32)) v43 v45 r50 q51) bmX10_137 biX10_paints bsX10_paints bzX10 bcX10_paints rfl hX10_paints (rest := []) rfl (jroom_of rfl) 0 (ci := 8) rfl rfl rfl [0, 5] [1, 2, 3, 4] [4, 0, 1, 2, 3, 5] (wr := [(h_t_told, jI D 8 t_told_), (h_t_touches, jZ D 32 t_touches_), (h_t_has, jI D 4 t_has_), (h_t_beside, jI D 9 t_beside_)]) (ws2 := [(h_t, .inr (8, [.int t_length, .ref h_t_text, .int t_at, .ref h_t_told, .ref h_t_touches, .ref h_t_has, .ref h_t_old, .ref h_t_beside, .int t_stones, .ref h_t_slot, .int t_kept, .int t_done, .int t_rows, .ref h_t_row, .ref h_t_free, .int t_frees, .ref h_t_worth, .ref h_t_fore, .ref h_t_back, .int t_fewest, .ref h_t_got])), (h_t_told, jI D 8 t_told_), (h_t_touches, jZ D 32 t_touches_), (h_t_has, jI D 4 t_has_), (h_t_beside, jI D 9 t_beside_), (h_t_slot, jI D 240 r50)]) rfl rfl rfl rfl rfl (Nat.le_of_ble_eq_true rfl) dX10_odds_166 ?_
        refine j_lload C dX10_odds_169 4 rfl ?_
        refine j_aload_n C dX10_odds_171 rfl 2 rfl ?_
        obtain ⟨r52, q53, h⟩ := jl_bind h
        refine j_cV1 C (mX10_stuckNext (jlaunch X) D F h_t h_t_text h_t_told h_t_touches h_t_has h_t_old h_t_beside h_t_slot h_t_row h_t_free h_t_worth h_t_fore h_t_back h_t_got t_length t_at t_stones t_kept t_done t_rows t_frees t_fewest t_told_ t_touches_ t_has_ t_beside_ r50 r52 q53) bmX10_200 biX10_stuckNext bsX10_stuckNext bzX10 bcX10_stuckNext rfl hX10_stuckNext (rest := [.long x25]) rfl (jroom_of rfl) 0 (ci := 8) rfl rfl rfl [0, 1, 2, 3, 4, 5] [] [0, 1, 2, 3, 4, 5] (wr := []) (ws2 := [(h_t, .inr (8, [.int t_length, .ref h_t_text, .int t_at, .ref h_t_told, .ref h_t_touches, .ref h_t_has, .ref h_t_old, .ref h_t_beside, .int t_stones, .ref h_t_slot, .int t_kept, .int t_done, .int t_rows, .ref h_t_row, .ref h_t_free, .int t_frees, .ref h_t_worth, .ref h_t_fore, .ref h_t_back, .int t_fewest, .ref h_t_got])), (h_t_told, jI D 8 t_told_), (h_t_touches, jZ D 32 t_touches_), (h_t_has, jI D 4 t_has_), (h_t_beside, jI D 9 t_beside_), (h_t_slot, jI D 240 r52.2)]) rfl rfl rfl rfl rfl (Nat.le_of_ble_eq_true rfl) dX10_odds_172 ?_
        refine j_ladd C dX10_odds_175 ?_
        refine j_lstore C dX10_odds_176 (lv' := fun v54 => [(4, .long v54), (10, .int v45), (9, .int v43), (0, .ref h_t), (2, .int p2), (6, .long x26), (8, .int x27)]) (by decide) (fun _ => rfl) h (fun v54 h => ?_)
        refine j_aload_n C dX10_odds_178 rfl 3 rfl ?_
        obtain ⟨r55, q56, h⟩ := jl_bind h
        refine j_cV0 C (mX10_takesBack (jlaunch X) D h_t h_t_text h_t_told h_t_touches h_t_has h_t_old h_t_beside h_t_slot h_t_row h_t_free h_t_worth h_t_fore h_t_back h_t_got t_length t_at t_stones t_kept t_done t_rows t_frees t_fewest r52.2 r55 q56) bmX10_195 biX10_takesBack bsX10_takesBack bzX10 bcX10_takesBack rfl hX10_takesBack (rest := []) rfl (jroom_of rfl) 0 (ci := 8) rfl rfl rfl [0, 5] [1, 2, 3, 4] [4, 0, 1, 2, 3, 5] (wr := [(h_t_told, jI D 8 t_told_), (h_t_touches, jZ D 32 t_touches_), (h_t_has, jI D 4 t_has_), (h_t_beside, jI D 9 t_beside_)]) (ws2 := [(h_t, .inr (8, [.int t_length, .ref h_t_text, .int t_at, .ref h_t_told, .ref h_t_touches, .ref h_t_has, .ref h_t_old, .ref h_t_beside, .int t_stones, .ref h_t_slot, .int t_kept, .int t_done, .int t_rows, .ref h_t_row, .ref h_t_free, .int t_frees, .ref h_t_worth, .ref h_t_fore, .ref h_t_back, .int t_fewest, .ref h_t_got])), (h_t_told, jI D 8 t_told_), (h_t_touches, jZ D 32 t_touches_), (h_t_has, jI D 4 t_has_), (h_t_beside, jI D 9 t_beside_), (h_t_slot, jI D 240 r55)]) rfl rfl rfl rfl rfl (Nat.le_of_ble_eq_true rfl) dX10_odds_179 ?_
        refine j_iinc C dX10_odds_182 6 rfl (lv' := fun v57 => [(8, .int v57), (4, .long v54), (10, .int v45), (9, .int v43), (0, .ref h_t), (2, .int p2), (6, .long x26)]) (by decide) (fun _ => rfl) h (fun v57 h => ?_)
        refine j_goto C dX10_odds_185 (tgt := 106) (by decide) ?_
        refine j_sub (lv' := [(0, .ref h_t), (2, .int p2), (4, .long v54), (6, .long x26), (8, .int v57)]) [4, 5, 1, 6, 0] rfl ?_
        exact i106 v54 x26 v57 r55 h
  refine j_iload_n C dX10_odds_0 rfl 1 rfl ?_
  refine j_i2l C dX10_odds_1 ?_
  refine j_lconst C dX10_odds_2 (v := (0 : Int64)) (by decide) ?_
  refine j_ldc2_w C bKX10_75 dX10_odds_3 ?_
  obtain ⟨r1, q2, h⟩ := jl_bind h
  refine j_cS1 C (mX10_in (jlaunch X) D p1.toInt64 ((0 : Int64)) ((2 : Int64)) r1 q2) bmX10_60 btX10_in bzX10 bcX10_in hX10_in (rest := []) rfl (jroom_of rfl) [] [0, 1, 2, 3, 4, 5] [0, 1, 2, 3, 4, 5] (wr := [(h_t, .inr (8, [.int t_length, .ref h_t_text, .int t_at, .ref h_t_told, .ref h_t_touches, .ref h_t_has, .ref h_t_old, .ref h_t_beside, .int t_stones, .ref h_t_slot, .int t_kept, .int t_done, .int t_rows, .ref h_t_row, .ref h_t_free, .int t_frees, .ref h_t_worth, .ref h_t_fore, .ref h_t_back, .int t_fewest, .ref h_t_got])), (h_t_told, jI D 8 t_told_), (h_t_touches, jZ D 32 t_touches_), (h_t_has, jI D 4 t_has_), (h_t_beside, jI D 9 t_beside_), (h_t_slot, jI D 240 t_slot_)]) (ws2 := [(h_t, .inr (8, [.int t_length, .ref h_t_text, .int t_at, .ref h_t_told, .ref h_t_touches, .ref h_t_has, .ref h_t_old, .ref h_t_beside, .int t_stones, .ref h_t_slot, .int t_kept, .int t_done, .int t_rows, .ref h_t_row, .ref h_t_free, .int t_frees, .ref h_t_worth, .ref h_t_fore, .ref h_t_back, .int t_fewest, .ref h_t_got])), (h_t_told, jI D 8 t_told_), (h_t_touches, jZ D 32 t_touches_), (h_t_has, jI D 4 t_has_), (h_t_beside, jI D 9 t_beside_), (h_t_slot, jI D 240 t_slot_)]) rfl rfl rfl rfl rfl (Nat.le_of_ble_eq_true rfl) dX10_odds_6 ?_
  refine j_if_eq C (tgt := 22) dX10_odds_9 (by decide) h (fun c3 h => ?_) (fun c3 h => ?_)
  · refine j_sub (lv' := []) [] rfl ?_
    exact L22 t_slot_ h
  · refine j_iload_n C dX10_odds_12 rfl 2 rfl ?_
    refine j_i2l C dX10_odds_13 ?_
    refine j_lconst C dX10_odds_14 (v := (0 : Int64)) (by decide) ?_
    refine j_lconst C dX10_odds_15 (v := (1 : Int64)) (by decide) ?_
    obtain ⟨r5, q6, h⟩ := jl_bind h
    refine j_cS1 C (mX10_in (jlaunch X) D p2.toInt64 ((0 : Int64)) ((1 : Int64)) r5 q6) bmX10_60 btX10_in bzX10 bcX10_in hX10_in (rest := []) rfl (jroom_of rfl) [] [0, 1, 2, 3, 4, 5] [0, 1, 2, 3, 4, 5] (wr := [(h_t, .inr (8, [.int t_length, .ref h_t_text, .int t_at, .ref h_t_told, .ref h_t_touches, .ref h_t_has, .ref h_t_old, .ref h_t_beside, .int t_stones, .ref h_t_slot, .int t_kept, .int t_done, .int t_rows, .ref h_t_row, .ref h_t_free, .int t_frees, .ref h_t_worth, .ref h_t_fore, .ref h_t_back, .int t_fewest, .ref h_t_got])), (h_t_told, jI D 8 t_told_), (h_t_touches, jZ D 32 t_touches_), (h_t_has, jI D 4 t_has_), (h_t_beside, jI D 9 t_beside_), (h_t_slot, jI D 240 t_slot_)]) (ws2 := [(h_t, .inr (8, [.int t_length, .ref h_t_text, .int t_at, .ref h_t_told, .ref h_t_touches, .ref h_t_has, .ref h_t_old, .ref h_t_beside, .int t_stones, .ref h_t_slot, .int t_kept, .int t_done, .int t_rows, .ref h_t_row, .ref h_t_free, .int t_frees, .ref h_t_worth, .ref h_t_fore, .ref h_t_back, .int t_fewest, .ref h_t_got])), (h_t_told, jI D 8 t_told_), (h_t_touches, jZ D 32 t_touches_), (h_t_has, jI D 4 t_has_), (h_t_beside, jI D 9 t_beside_), (h_t_slot, jI D 240 t_slot_)]) rfl rfl rfl rfl rfl (Nat.le_of_ble_eq_true rfl) dX10_odds_16 ?_
    refine j_if_ne C (tgt := 26) dX10_odds_19 (by decide) h (fun c7 h => ?_) (fun c7 h => ?_)
    · refine j_sub (lv' := []) [] rfl ?_
      exact L22 t_slot_ h
    · refine j_aload_n C dX10_odds_26 rfl 0 rfl ?_
      refine j_iconst C dX10_odds_27 (v := (0 : Int32)) (by decide) ?_
      refine j_bipush C dX10_odds_28 (v := (11 : Int32)) (by decide) ?_
      obtain ⟨r8, q9, h⟩ := jl_bind h
      refine j_cV0 C (mX10_copies (jlaunch X) D F h_t h_t_text h_t_told h_t_touches h_t_has h_t_old h_t_beside h_t_slot h_t_row h_t_free h_t_worth h_t_fore h_t_back h_t_got t_length t_at t_stones t_kept t_done t_rows t_frees t_fewest t_slot_ ((0 : Int32)) ((11 : Int32)) r8 q9) bmX10_130 biX10_copies bsX10_copies bzX10 bcX10_copies rfl hX10_copies (rest := []) rfl (jroom_of rfl) 0 (ci := 8) rfl rfl rfl [0, 5] [1, 2, 3, 4] [4, 0, 1, 2, 3, 5] (wr := [(h_t_told, jI D 8 t_told_), (h_t_touches, jZ D 32 t_touches_), (h_t_has, jI D 4 t_has_), (h_t_beside, jI D 9 t_beside_)]) (ws2 := [(h_t, .inr (8, [.int t_length, .ref h_t_text, .int t_at, .ref h_t_told, .ref h_t_touches, .ref h_t_has, .ref h_t_old, .ref h_t_beside, .int t_stones, .ref h_t_slot, .int t_kept, .int t_done, .int t_rows, .ref h_t_row, .ref h_t_free, .int t_frees, .ref h_t_worth, .ref h_t_fore, .ref h_t_back, .int t_fewest, .ref h_t_got])), (h_t_told, jI D 8 t_told_), (h_t_touches, jZ D 32 t_touches_), (h_t_has, jI D 4 t_has_), (h_t_beside, jI D 9 t_beside_), (h_t_slot, jI D 240 r8)]) rfl rfl rfl rfl rfl (Nat.le_of_ble_eq_true rfl) dX10_odds_30 ?_
      refine j_aload_n C dX10_odds_33 rfl 0 rfl ?_
      refine j_iconst C dX10_odds_34 (v := (0 : Int32)) (by decide) ?_
      obtain ⟨r10, q11, h⟩ := jl_bind h
      refine j_cV1 C (mX10_mays (jlaunch X) D F h_t h_t_text h_t_told h_t_touches h_t_has h_t_old h_t_beside h_t_slot h_t_row h_t_free h_t_worth h_t_fore h_t_back h_t_got t_length t_at t_stones t_kept t_done t_rows t_frees t_fewest t_told_ t_touches_ t_has_ t_beside_ r8 ((0 : Int32)) r10 q11) bmX10_144 biX10_mays bsX10_mays bzX10 bcX10_mays rfl hX10_mays (rest := []) rfl (jroom_of rfl) 0 (ci := 8) rfl rfl rfl [0, 1, 2, 3, 4, 5] [] [0, 1, 2, 3, 4, 5] (wr := []) (ws2 := [(h_t, .inr (8, [.int t_length, .ref h_t_text, .int t_at, .ref h_t_told, .ref h_t_touches, .ref h_t_has, .ref h_t_old, .ref h_t_beside, .int t_stones, .ref h_t_slot, .int t_kept, .int t_done, .int t_rows, .ref h_t_row, .ref h_t_free, .int t_frees, .ref h_t_worth, .ref h_t_fore, .ref h_t_back, .int t_fewest, .ref h_t_got])), (h_t_told, jI D 8 t_told_), (h_t_touches, jZ D 32 t_touches_), (h_t_has, jI D 4 t_has_), (h_t_beside, jI D 9 t_beside_), (h_t_slot, jI D 240 r8)]) rfl rfl rfl rfl rfl (Nat.le_of_ble_eq_true rfl) dX10_odds_35 ?_
      refine j_istore_nC C dX10_odds_38 rfl (lv' := [(3, .int r10), (0, .ref h_t), (1, .int p1), (2, .int p2)]) (by decide) rfl ?_
      refine j_lconst C dX10_odds_39 (v := (0 : Int64)) (by decide) ?_
      refine j_lstoreC C dX10_odds_40 (lv' := [(4, .long ((0 : Int64))), (3, .int r10), (0, .ref h_t), (1, .int p1), (2, .int p2)]) (by decide) rfl ?_
      refine j_ldc2_w C bKX10_193 dX10_odds_42 ?_
      refine j_lstoreC C dX10_odds_45 (lv' := [(6, .long ((80313433200 : Int64))), (4, .long ((0 : Int64))), (3, .int r10), (0, .ref h_t), (1, .int p1), (2, .int p2)]) (by decide) rfl ?_
      refine j_iload_n C dX10_odds_47 rfl 2 rfl ?_
      refine j_if_eq C (tgt := 55) dX10_odds_48 (by decide) h (fun c12 h => ?_) (fun c12 h => ?_)
      · refine j_sub (lv' := [(0, .ref h_t), (2, .int p2), (3, .int r10), (6, .long ((80313433200 : Int64)))]) [3, 5, 2, 0] rfl ?_
        exact L55 r10 ((80313433200 : Int64)) r8 h
      · refine j_iload_n C dX10_odds_51 rfl 4 rfl ?_
        refine j_if_ne C (tgt := 81) dX10_odds_52 (by decide) h (fun c16 h => ?_) (fun c16 h => ?_)
        · refine j_sub (lv' := [(0, .ref h_t), (2, .int p2), (3, .int r10), (6, .long ((80313433200 : Int64)))]) [3, 5, 2, 0] rfl ?_
          exact L55 r10 ((80313433200 : Int64)) r8 h
        · refine j_iload_n C dX10_odds_81 rfl 4 rfl ?_
          refine j_iconst C dX10_odds_82 (v := (1 : Int32)) (by decide) ?_
          refine j_icmp_ne C (tgt := 95) dX10_odds_83 (by decide) h (fun c17 h => ?_) (fun c17 h => ?_)
          · refine j_aload_n C dX10_odds_86 rfl 3 rfl ?_
            obtain ⟨r18, q19, h⟩ := jl_bind h
            refine j_cV1 C (mX10_stuckNext (jlaunch X) D F h_t h_t_text h_t_told h_t_touches h_t_has h_t_old h_t_beside h_t_slot h_t_row h_t_free h_t_worth h_t_fore h_t_back h_t_got t_length t_at t_stones t_kept t_done t_rows t_frees t_fewest t_told_ t_touches_ t_has_ t_beside_ r8 r18 q19) bmX10_200 biX10_stuckNext bsX10_stuckNext bzX10 bcX10_stuckNext rfl hX10_stuckNext (rest := []) rfl (jroom_of rfl) 0 (ci := 8) rfl rfl rfl [0, 1, 2, 3, 4, 5] [] [0, 1, 2, 3, 4, 5] (wr := []) (ws2 := [(h_t, .inr (8, [.int t_length, .ref h_t_text, .int t_at, .ref h_t_told, .ref h_t_touches, .ref h_t_has, .ref h_t_old, .ref h_t_beside, .int t_stones, .ref h_t_slot, .int t_kept, .int t_done, .int t_rows, .ref h_t_row, .ref h_t_free, .int t_frees, .ref h_t_worth, .ref h_t_fore, .ref h_t_back, .int t_fewest, .ref h_t_got])), (h_t_told, jI D 8 t_told_), (h_t_touches, jZ D 32 t_touches_), (h_t_has, jI D 4 t_has_), (h_t_beside, jI D 9 t_beside_), (h_t_slot, jI D 240 r18.2)]) rfl rfl rfl rfl rfl (Nat.le_of_ble_eq_true rfl) dX10_odds_87 ?_
            refine j_lstore C dX10_odds_90 (lv' := fun v20 => [(4, .long v20), (6, .long ((80313433200 : Int64))), (3, .int r10), (0, .ref h_t), (1, .int p1), (2, .int p2)]) (by decide) (fun _ => rfl) h (fun v20 h => ?_)
            refine j_goto C dX10_odds_92 (tgt := 188) (by decide) ?_
            refine j_sub (lv' := [(2, .int p2), (4, .long v20), (6, .long ((80313433200 : Int64)))]) [5, 0, 1] rfl ?_
            exact L188 v20 ((80313433200 : Int64)) r18.2 h
          · refine j_ldc2_w C bKX10_193 dX10_odds_95 ?_
            refine j_iload_n C dX10_odds_98 rfl 2 rfl ?_
            refine j_i2l C dX10_odds_99 ?_
            refine j_lmul C dX10_odds_100 ?_
            refine j_lstore C dX10_odds_101 (lv' := fun v24 => [(6, .long v24), (4, .long ((0 : Int64))), (3, .int r10), (0, .ref h_t), (1, .int p1), (2, .int p2)]) (by decide) (fun _ => rfl) h (fun v24 h => ?_)
            refine j_iconst C dX10_odds_103 (v := (0 : Int32)) (by decide) ?_
            refine j_istoreC C dX10_odds_104 (lv' := [(8, .int ((0 : Int32))), (6, .long v24), (4, .long ((0 : Int64))), (3, .int r10), (0, .ref h_t), (1, .int p1), (2, .int p2)]) (by decide) rfl ?_
            refine j_sub (lv' := [(0, .ref h_t), (2, .int p2), (4, .long ((0 : Int64))), (6, .long v24), (8, .int ((0 : Int32)))]) [4, 6, 2, 1, 0] rfl ?_
            exact L106 ((0 : Int64)) v24 ((0 : Int32)) r8 h
theorem dX10_draws_0 : decode cX10_draws 0 = .ok (.iload_n 1, 1) := by decide +kernel
theorem dX10_draws_1 : decode cX10_draws 1 = .ok (.istore_n 2, 1) := by decide +kernel
theorem dX10_draws_2 : decode cX10_draws 2 = .ok (.iconst 0, 1) := by decide +kernel
theorem dX10_draws_3 : decode cX10_draws 3 = .ok (.istore_n 3, 1) := by decide +kernel
theorem dX10_draws_4 : decode cX10_draws 4 = .ok (.iload_n 3, 1) := by decide +kernel
theorem dX10_draws_5 : decode cX10_draws 5 = .ok (.aload_n 0, 1) := by decide +kernel
theorem dX10_draws_6 : decode cX10_draws 6 = .ok (.getfield 91, 3) := by decide +kernel
theorem dX10_draws_9 : decode cX10_draws 9 = .ok (.aload_n 0, 1) := by decide +kernel
theorem dX10_draws_10 : decode cX10_draws 10 = .ok (.getfield 13, 3) := by decide +kernel
theorem dX10_draws_13 : decode cX10_draws 13 = .ok (.iconst 2, 1) := by decide +kernel
theorem dX10_draws_14 : decode cX10_draws 14 = .ok (.iaload, 1) := by decide +kernel
theorem dX10_draws_15 : decode cX10_draws 15 = .ok (.imul, 1) := by decide +kernel
theorem dX10_draws_16 : decode cX10_draws 16 = .ok (.if_icmp .ge 62, 3) := by decide +kernel
theorem dX10_draws_19 : decode cX10_draws 19 = .ok (.iload_n 3, 1) := by decide +kernel
theorem dX10_draws_20 : decode cX10_draws 20 = .ok (.aload_n 0, 1) := by decide +kernel
theorem dX10_draws_21 : decode cX10_draws 21 = .ok (.getfield 13, 3) := by decide +kernel
theorem dX10_draws_24 : decode cX10_draws 24 = .ok (.iconst 2, 1) := by decide +kernel
theorem dX10_draws_25 : decode cX10_draws 25 = .ok (.iaload, 1) := by decide +kernel
theorem dX10_draws_26 : decode cX10_draws 26 = .ok (.idiv, 1) := by decide +kernel
theorem dX10_draws_27 : decode cX10_draws 27 = .ok (.istore 4, 2) := by decide +kernel
theorem dX10_draws_29 : decode cX10_draws 29 = .ok (.iload_n 3, 1) := by decide +kernel
theorem dX10_draws_30 : decode cX10_draws 30 = .ok (.aload_n 0, 1) := by decide +kernel
theorem dX10_draws_31 : decode cX10_draws 31 = .ok (.getfield 13, 3) := by decide +kernel
theorem dX10_draws_34 : decode cX10_draws 34 = .ok (.iconst 2, 1) := by decide +kernel
theorem dX10_draws_35 : decode cX10_draws 35 = .ok (.iaload, 1) := by decide +kernel
theorem dX10_draws_36 : decode cX10_draws 36 = .ok (.irem, 1) := by decide +kernel
theorem dX10_draws_37 : decode cX10_draws 37 = .ok (.iconst 1, 1) := by decide +kernel
theorem dX10_draws_38 : decode cX10_draws 38 = .ok (.iadd, 1) := by decide +kernel
theorem dX10_draws_39 : decode cX10_draws 39 = .ok (.istore 5, 2) := by decide +kernel
theorem dX10_draws_41 : decode cX10_draws 41 = .ok (.aload_n 0, 1) := by decide +kernel
theorem dX10_draws_42 : decode cX10_draws 42 = .ok (.bipush 11, 2) := by decide +kernel
theorem dX10_draws_44 : decode cX10_draws 44 = .ok (.iload 4, 2) := by decide +kernel
theorem dX10_draws_46 : decode cX10_draws 46 = .ok (.iload 5, 2) := by decide +kernel
theorem dX10_draws_48 : decode cX10_draws 48 = .ok (.invokevirtual 127, 3) := by decide +kernel
theorem dX10_draws_51 : decode cX10_draws 51 = .ok (.ifCond .eq 21, 3) := by decide +kernel
theorem dX10_draws_54 : decode cX10_draws 54 = .ok (.iload_n 2, 1) := by decide +kernel
theorem dX10_draws_55 : decode cX10_draws 55 = .ok (.ifCond .ne 14, 3) := by decide +kernel
theorem dX10_draws_58 : decode cX10_draws 58 = .ok (.aload_n 0, 1) := by decide +kernel
theorem dX10_draws_59 : decode cX10_draws 59 = .ok (.bipush 11, 2) := by decide +kernel
theorem dX10_draws_61 : decode cX10_draws 61 = .ok (.iload 4, 2) := by decide +kernel
theorem dX10_draws_63 : decode cX10_draws 63 = .ok (.iload 5, 2) := by decide +kernel
theorem dX10_draws_65 : decode cX10_draws 65 = .ok (.invokevirtual 137, 3) := by decide +kernel
theorem dX10_draws_68 : decode cX10_draws 68 = .ok (.return_, 1) := by decide +kernel
theorem dX10_draws_69 : decode cX10_draws 69 = .ok (.iinc 2 (-1), 3) := by decide +kernel
theorem dX10_draws_72 : decode cX10_draws 72 = .ok (.iinc 3 1, 3) := by decide +kernel
theorem dX10_draws_75 : decode cX10_draws 75 = .ok (.goto (-71), 3) := by decide +kernel
theorem dX10_draws_78 : decode cX10_draws 78 = .ok (.return_, 1) := by decide +kernel
def bX10_draws_4 (F : Nat) (t_stones : Int32) (t_told_ : Nat → Int32) (t_touches_ : Nat → Int32) (t_has_ : Nat → Int32) (t_beside_ : Nat → Int32) (p1 : Int32)  (k4 : Int32 → Int32 → (Nat → Int32) → Option ((Nat → Int32))) (x1 : Int32) (x2 : Int32) (m_t_slot__3 : Nat → Int32) : Option ((Nat → Int32)) :=
(if (t_stones * (t_told_ ((2 : Int32)).toNatClampNeg)) ≤ x2 then
(some (m_t_slot__3))
else
(if (t_told_ ((2 : Int32)).toNatClampNeg) = 0 then none else
(jl_let (x2 / (t_told_ ((2 : Int32)).toNatClampNeg)) fun v6 =>
(if (t_told_ ((2 : Int32)).toNatClampNeg) = 0 then none else
(jl_let ((x2 - x2 / (t_told_ ((2 : Int32)).toNatClampNeg) * (t_told_ ((2 : Int32)).toNatClampNeg)) + ((1 : Int32))) fun v8 =>
((fX10_isMay F t_stones t_touches_ t_has_ t_beside_ m_t_slot__3 ((11 : Int32)) v6 v8).bind fun r9 =>
(if r9 = 0 then
(jl_let (x2 + Int32.ofInt (1)) fun v12 =>
(k4 x1 v12 m_t_slot__3))
else
(if x1 = 0 then
((fX10_paints m_t_slot__3 ((11 : Int32)) v6 v8).bind fun r14 =>
(some (r14)))
else
(jl_let (x1 + Int32.ofInt (-1)) fun v16 =>
(jl_let (x2 + Int32.ofInt (1)) fun v17 =>
(k4 v16 v17 m_t_slot__3)))))))))))
def lX10_draws_4 (F : Nat) (t_stones : Int32) (t_told_ : Nat → Int32) (t_touches_ : Nat → Int32) (t_has_ : Nat → Int32) (t_beside_ : Nat → Int32) (p1 : Int32)  (F2 : Nat) (x1 : Int32) (x2 : Int32) (m_t_slot__3 : Nat → Int32) : Option ((Nat → Int32)) := jl_loop3 (bX10_draws_4 F t_stones t_told_ t_touches_ t_has_ t_beside_ p1 ) F2 x1 x2 m_t_slot__3
def fX10_draws (F : Nat) (t_stones : Int32) (t_told_ : Nat → Int32) (t_touches_ : Nat → Int32) (t_has_ : Nat → Int32) (t_beside_ : Nat → Int32) (t_slot_ : Nat → Int32) (p1 : Int32) : Option ((Nat → Int32)) :=
(lX10_draws_4 F t_stones t_told_ t_touches_ t_has_ t_beside_ p1 F p1 ((0 : Int32)) t_slot_)
def oX10_draws (D : jv_D) (h_t : Nat) (h_t_text : Nat) (h_t_told : Nat) (h_t_touches : Nat) (h_t_has : Nat) (h_t_old : Nat) (h_t_beside : Nat) (h_t_slot : Nat) (h_t_row : Nat) (h_t_free : Nat) (h_t_worth : Nat) (h_t_fore : Nat) (h_t_back : Nat) (h_t_got : Nat) (t_length : Int32) (t_at : Int32) (t_stones : Int32) (t_kept : Int32) (t_done : Int32) (t_rows : Int32) (t_frees : Int32) (t_fewest : Int32) (t_told_ : Nat → Int32) (t_touches_ : Nat → Int32) (t_has_ : Nat → Int32) (t_beside_ : Nat → Int32) (r : (Nat → Int32)) : va_W := [(h_t, .inr (8, [.int t_length, .ref h_t_text, .int t_at, .ref h_t_told, .ref h_t_touches, .ref h_t_has, .ref h_t_old, .ref h_t_beside, .int t_stones, .ref h_t_slot, .int t_kept, .int t_done, .int t_rows, .ref h_t_row, .ref h_t_free, .int t_frees, .ref h_t_worth, .ref h_t_fore, .ref h_t_back, .int t_fewest, .ref h_t_got])), (h_t_told, jI D 8 t_told_), (h_t_touches, jZ D 32 t_touches_), (h_t_has, jI D 4 t_has_), (h_t_beside, jI D 9 t_beside_), (h_t_slot, jI D 240 r)]
set_option maxHeartbeats 40000000 in
set_option maxRecDepth 100000 in
theorem mX10_draws (l : Launch) (D : jv_D) (F : Nat) (h_t : Nat) (h_t_text : Nat) (h_t_told : Nat) (h_t_touches : Nat) (h_t_has : Nat) (h_t_old : Nat) (h_t_beside : Nat) (h_t_slot : Nat) (h_t_row : Nat) (h_t_free : Nat) (h_t_worth : Nat) (h_t_fore : Nat) (h_t_back : Nat) (h_t_got : Nat) (t_length : Int32) (t_at : Int32) (t_stones : Int32) (t_kept : Int32) (t_done : Int32) (t_rows : Int32) (t_frees : Int32) (t_fewest : Int32) (t_told_ : Nat → Int32) (t_touches_ : Nat → Int32) (t_has_ : Nat → Int32) (t_beside_ : Nat → Int32) (t_slot_ : Nat → Int32) (p1 : Int32) (r : (Nat → Int32)) (h : fX10_draws F t_stones t_told_ t_touches_ t_has_ t_beside_ t_slot_ p1 = some r) : MM l yX10_draws (jW yX10_draws cX10_draws 6 none) ({ frames := 2, cells := 0, slots := 0, locals := 49 }) D [.ref h_t, .int p1] [(h_t, .inr (8, [.int t_length, .ref h_t_text, .int t_at, .ref h_t_told, .ref h_t_touches, .ref h_t_has, .ref h_t_old, .ref h_t_beside, .int t_stones, .ref h_t_slot, .int t_kept, .int t_done, .int t_rows, .ref h_t_row, .ref h_t_free, .int t_frees, .ref h_t_worth, .ref h_t_fore, .ref h_t_back, .int t_fewest, .ref h_t_got])), (h_t_told, jI D 8 t_told_), (h_t_touches, jZ D 32 t_touches_), (h_t_has, jI D 4 t_has_), (h_t_beside, jI D 9 t_beside_), (h_t_slot, jI D 240 t_slot_)] none (oX10_draws D h_t h_t_text h_t_told h_t_touches h_t_has h_t_old h_t_beside h_t_slot h_t_row h_t_free h_t_worth h_t_fore h_t_back h_t_got t_length t_at t_stones t_kept t_done t_rows t_frees t_fewest t_told_ t_touches_ t_has_ t_beside_ r) := by
  refine mn_of hpX10_draws (Nat.le_of_ble_eq_true rfl) ?_
  intro X hXl C E0 hN
  subst hXl
  replace C : JC D X 6 RX10 cX10_draws ({ frames := 2, cells := 0, slots := 0, locals := 49 }) := C
  have E : JE D X 0 0 none (fun _ : Unit => none) (fun _ : Unit => (oX10_draws D h_t h_t_text h_t_told h_t_touches h_t_has h_t_old h_t_beside h_t_slot h_t_row h_t_free h_t_worth h_t_fore h_t_back h_t_got t_length t_at t_stones t_kept t_done t_rows t_frees t_fewest t_told_ t_touches_ t_has_ t_beside_ r)) := E0 0 0 rfl rfl
  clear E0 hN
  show JJ D X 6 0 0 0 [(0, .ref h_t), (1, .int p1)] [] [(h_t, .inr (8, [.int t_length, .ref h_t_text, .int t_at, .ref h_t_told, .ref h_t_touches, .ref h_t_has, .ref h_t_old, .ref h_t_beside, .int t_stones, .ref h_t_slot, .int t_kept, .int t_done, .int t_rows, .ref h_t_row, .ref h_t_free, .int t_frees, .ref h_t_worth, .ref h_t_fore, .ref h_t_back, .int t_fewest, .ref h_t_got])), (h_t_told, jI D 8 t_told_), (h_t_touches, jZ D 32 t_touches_), (h_t_has, jI D 4 t_has_), (h_t_beside, jI D 9 t_beside_), (h_t_slot, jI D 240 t_slot_)]
  unfold fX10_draws at h
  have L4 : ∀ (x1 : Int32) (x2 : Int32) (m_t_slot__3 : Nat → Int32), lX10_draws_4 F t_stones t_told_ t_touches_ t_has_ t_beside_ p1  F x1 x2 m_t_slot__3 = some r → JJ D X 6 0 0 4 [(0, .ref h_t), (2, .int x1), (3, .int x2)] [] [(h_t, .inr (8, [.int t_length, .ref h_t_text, .int t_at, .ref h_t_told, .ref h_t_touches, .ref h_t_has, .ref h_t_old, .ref h_t_beside, .int t_stones, .ref h_t_slot, .int t_kept, .int t_done, .int t_rows, .ref h_t_row, .ref h_t_free, .int t_frees, .ref h_t_worth, .ref h_t_fore, .ref h_t_back, .int t_fewest, .ref h_t_got])), (h_t_told, jI D 8 t_told_), (h_t_touches, jZ D 32 t_touches_), (h_t_has, jI D 4 t_has_), (h_t_beside, jI D 9 t_beside_), (h_t_slot, jI D 240 m_t_slot__3)] := by
    intro x1 x2 m_t_slot__3 h
    refine jl_ind3 (fun x1 x2 m_t_slot__3 => JJ D X 6 0 0 4 [(0, .ref h_t), (2, .int x1), (3, .int x2)] [] [(h_t, .inr (8, [.int t_length, .ref h_t_text, .int t_at, .ref h_t_told, .ref h_t_touches, .ref h_t_has, .ref h_t_old, .ref h_t_beside, .int t_stones, .ref h_t_slot, .int t_kept, .int t_done, .int t_rows, .ref h_t_row, .ref h_t_free, .int t_frees, .ref h_t_worth, .ref h_t_fore, .ref h_t_back, .int t_fewest, .ref h_t_got])), (h_t_told, jI D 8 t_told_), (h_t_touches, jZ D 32 t_touches_), (h_t_has, jI D 4 t_has_), (h_t_beside, jI D 9 t_beside_), (h_t_slot, jI D 240 m_t_slot__3)]) ?_ F x1 x2 m_t_slot__3 h
    clear h x1 x2 m_t_slot__3
    intro k4 i4 x1 x2 m_t_slot__3 h
    replace i4 : ∀ (x1 : Int32) (x2 : Int32) (m_t_slot__3 : Nat → Int32), k4 x1 x2 m_t_slot__3 = some r → JJ D X 6 0 0 4 [(0, .ref h_t), (2, .int x1), (3, .int x2)] [] [(h_t, .inr (8, [.int t_length, .ref h_t_text, .int t_at, .ref h_t_told, .ref h_t_touches, .ref h_t_has, .ref h_t_old, .ref h_t_beside, .int t_stones, .ref h_t_slot, .int t_kept, .int t_done, .int t_rows, .ref h_t_row, .ref h_t_free, .int t_frees, .ref h_t_worth, .ref h_t_fore, .ref h_t_back, .int t_fewest, .ref h_t_got])), (h_t_told, jI D 8 t_told_), (h_t_touches, jZ D 32 t_touches_), (h_t_has, jI D 4 t_has_), (h_t_beside, jI D 9 t_beside_), (h_t_slot, jI D 240 m_t_slot__3)] := i4
    show JJ D X 6 0 0 4 [(0, .ref h_t), (2, .int x1), (3, .int x2)] [] [(h_t, .inr (8, [.int t_length, .ref h_t_text, .int t_at, .ref h_t_told, .ref h_t_touches, .ref h_t_has, .ref h_t_old, .ref h_t_beside, .int t_stones, .ref h_t_slot, .int t_kept, .int t_done, .int t_rows, .ref h_t_row, .ref h_t_free, .int t_frees, .ref h_t_worth, .ref h_t_fore, .ref h_t_back, .int t_fewest, .ref h_t_got])), (h_t_told, jI D 8 t_told_), (h_t_touches, jZ D 32 t_touches_), (h_t_has, jI D 4 t_has_), (h_t_beside, jI D 9 t_beside_), (h_t_slot, jI D 240 m_t_slot__3)]
    unfold bX10_draws_4 at h
    refine j_iload_n C dX10_draws_4 rfl 2 rfl ?_
    refine j_aload_n C dX10_draws_5 rfl 0 rfl ?_
    refine j_get C ibX10 (ci := 8) 0 rfl rfl 8 (by decide) bfX10_91 (v := .int t_stones) rfl dX10_draws_6 ?_
    refine j_aload_n C dX10_draws_9 rfl 0 rfl ?_
    refine j_get C ibX10 (ci := 8) 0 rfl rfl 3 (by decide) bfX10_13 (v := .ref h_t_told) rfl dX10_draws_10 ?_
    refine j_iconst C dX10_draws_13 (v := (2 : Int32)) (by decide) ?_
    refine j_iald C 1 rfl (by unfold vp_in; decide) dX10_draws_14 ?_
    refine j_imul C dX10_draws_15 ?_
    refine j_icmp_ge C (tgt := 78) dX10_draws_16 (by decide) h (fun c4 h => ?_) (fun c4 h => ?_)
    · exact j_vretR C (r := r) (rtf := fun r => none) (wff := fun r => (oX10_draws D h_t h_t_text h_t_told h_t_touches h_t_has h_t_old h_t_beside h_t_slot h_t_row h_t_free h_t_worth h_t_fore h_t_back h_t_got t_length t_at t_stones t_kept t_done t_rows t_frees t_fewest t_told_ t_touches_ t_has_ t_beside_ r)) E h rfl rfl dX10_draws_78
    · refine j_iload_n C dX10_draws_19 rfl 2 rfl ?_
      refine j_aload_n C dX10_draws_20 rfl 0 rfl ?_
      refine j_get C ibX10 (ci := 8) 0 rfl rfl 3 (by decide) bfX10_13 (v := .ref h_t_told) rfl dX10_draws_21 ?_
      refine j_iconst C dX10_draws_24 (v := (2 : Int32)) (by decide) ?_
      refine j_iald C 1 rfl (by unfold vp_in; decide) dX10_draws_25 ?_
      refine jl_grd h (fun b5 h => ?_)
      refine j_idiv C dX10_draws_26 b5 ?_
      refine j_istore C dX10_draws_27 (lv' := fun v6 => [(4, .int v6), (0, .ref h_t), (2, .int x1), (3, .int x2)]) (by decide) (fun _ => rfl) h (fun v6 h => ?_)
      refine j_iload_n C dX10_draws_29 rfl 3 rfl ?_
      refine j_aload_n C dX10_draws_30 rfl 1 rfl ?_
      refine j_get C ibX10 (ci := 8) 0 rfl rfl 3 (by decide) bfX10_13 (v := .ref h_t_told) rfl dX10_draws_31 ?_
      refine j_iconst C dX10_draws_34 (v := (2 : Int32)) (by decide) ?_
      refine j_iald C 1 rfl (by unfold vp_in; decide) dX10_draws_35 ?_
      refine jl_grd h (fun b7 h => ?_)
      refine j_irem C dX10_draws_36 b7 ?_
      refine j_iconst C dX10_draws_37 (v := (1 : Int32)) (by decide) ?_
      refine j_iadd C dX10_draws_38 ?_
      refine j_istore C dX10_draws_39 (lv' := fun v8 => [(5, .int v8), (4, .int v6), (0, .ref h_t), (2, .int x1), (3, .int x2)]) (by decide) (fun _ => rfl) h (fun v8 h => ?_)
      refine j_aload_n C dX10_draws_41 rfl 2 rfl ?_
      refine j_bipush C dX10_draws_42 (v := (11 : Int32)) (by decide) ?_
      refine j_iload C dX10_draws_44 1 rfl ?_
      refine j_iload C dX10_draws_46 0 rfl ?_
      obtain ⟨r9, q10, h⟩ := jl_bind h
      refine j_cV1 C (mX10_isMay (jlaunch X) D F h_t h_t_text h_t_told h_t_touches h_t_has h_t_old h_t_beside h_t_slot h_t_row h_t_free h_t_worth h_t_fore h_t_back h_t_got t_length t_at t_stones t_kept t_done t_rows t_frees t_fewest t_touches_ t_has_ t_beside_ m_t_slot__3 ((11 : Int32)) v6 v8 r9 q10) bmX10_127 biX10_isMay bsX10_isMay bzX10 bcX10_isMay rfl hX10_isMay (rest := []) rfl (jroom_of rfl) 0 (ci := 8) rfl rfl rfl [0, 2, 3, 4, 5] [1] [1, 0, 2, 3, 4, 5] (wr := [(h_t_told, jI D 8 t_told_)]) (ws2 := [(h_t, .inr (8, [.int t_length, .ref h_t_text, .int t_at, .ref h_t_told, .ref h_t_touches, .ref h_t_has, .ref h_t_old, .ref h_t_beside, .int t_stones, .ref h_t_slot, .int t_kept, .int t_done, .int t_rows, .ref h_t_row, .ref h_t_free, .int t_frees, .ref h_t_worth, .ref h_t_fore, .ref h_t_back, .int t_fewest, .ref h_t_got])), (h_t_told, jI D 8 t_told_), (h_t_touches, jZ D 32 t_touches_), (h_t_has, jI D 4 t_has_), (h_t_beside, jI D 9 t_beside_), (h_t_slot, jI D 240 m_t_slot__3)]) rfl rfl rfl rfl rfl (Nat.le_of_ble_eq_true rfl) dX10_draws_48 ?_
      refine j_if_eq C (tgt := 72) dX10_draws_51 (by decide) h (fun c11 h => ?_) (fun c11 h => ?_)
      · refine j_iinc C dX10_draws_72 4 rfl (lv' := fun v12 => [(3, .int v12), (5, .int v8), (4, .int v6), (0, .ref h_t), (2, .int x1)]) (by decide) (fun _ => rfl) h (fun v12 h => ?_)
        refine j_goto C dX10_draws_75 (tgt := 4) (by decide) ?_
        refine j_sub (lv' := [(0, .ref h_t), (2, .int x1), (3, .int v12)]) [3, 4, 0] rfl ?_
        exact i4 x1 v12 m_t_slot__3 h
      · refine j_iload_n C dX10_draws_54 rfl 3 rfl ?_
        refine j_if_ne C (tgt := 69) dX10_draws_55 (by decide) h (fun c13 h => ?_) (fun c13 h => ?_)
        · refine j_aload_n C dX10_draws_58 rfl 2 rfl ?_
          refine j_bipush C dX10_draws_59 (v := (11 : Int32)) (by decide) ?_
          refine j_iload C dX10_draws_61 1 rfl ?_
          refine j_iload C dX10_draws_63 0 rfl ?_
          obtain ⟨r14, q15, h⟩ := jl_bind h
          refine j_cV0 C (mX10_paints (jlaunch X) D h_t h_t_text h_t_told h_t_touches h_t_has h_t_old h_t_beside h_t_slot h_t_row h_t_free h_t_worth h_t_fore h_t_back h_t_got t_length t_at t_stones t_kept t_done t_rows t_frees t_fewest m_t_slot__3 ((11 : Int32)) v6 v8 r14 q15) bmX10_137 biX10_paints bsX10_paints bzX10 bcX10_paints rfl hX10_paints (rest := []) rfl (jroom_of rfl) 0 (ci := 8) rfl rfl rfl [0, 5] [1, 2, 3, 4] [4, 0, 1, 2, 3, 5] (wr := [(h_t_told, jI D 8 t_told_), (h_t_touches, jZ D 32 t_touches_), (h_t_has, jI D 4 t_has_), (h_t_beside, jI D 9 t_beside_)]) (ws2 := [(h_t, .inr (8, [.int t_length, .ref h_t_text, .int t_at, .ref h_t_told, .ref h_t_touches, .ref h_t_has, .ref h_t_old, .ref h_t_beside, .int t_stones, .ref h_t_slot, .int t_kept, .int t_done, .int t_rows, .ref h_t_row, .ref h_t_free, .int t_frees, .ref h_t_worth, .ref h_t_fore, .ref h_t_back, .int t_fewest, .ref h_t_got])), (h_t_told, jI D 8 t_told_), (h_t_touches, jZ D 32 t_touches_), (h_t_has, jI D 4 t_has_), (h_t_beside, jI D 9 t_beside_), (h_t_slot, jI D 240 r14)]) rfl rfl rfl rfl rfl (Nat.le_of_ble_eq_true rfl) dX10_draws_65 ?_
          exact j_vretR C (r := r) (rtf := fun r => none) (wff := fun r => (oX10_draws D h_t h_t_text h_t_told h_t_touches h_t_has h_t_old h_t_beside h_t_slot h_t_row h_t_free h_t_worth h_t_fore h_t_back h_t_got t_length t_at t_stones t_kept t_done t_rows t_frees t_fewest t_told_ t_touches_ t_has_ t_beside_ r)) E h rfl rfl dX10_draws_68
        · refine j_iinc C dX10_draws_69 3 rfl (lv' := fun v16 => [(2, .int v16), (5, .int v8), (4, .int v6), (0, .ref h_t), (3, .int x2)]) (by decide) (fun _ => rfl) h (fun v16 h => ?_)
          refine j_iinc C dX10_draws_72 4 rfl (lv' := fun v17 => [(3, .int v17), (2, .int v16), (5, .int v8), (4, .int v6), (0, .ref h_t)]) (by decide) (fun _ => rfl) h (fun v17 h => ?_)
          refine j_goto C dX10_draws_75 (tgt := 4) (by decide) ?_
          refine j_sub (lv' := [(0, .ref h_t), (2, .int v16), (3, .int v17)]) [4, 1, 0] rfl ?_
          exact i4 v16 v17 m_t_slot__3 h
  refine j_iload_n C dX10_draws_0 rfl 1 rfl ?_
  refine j_istore_nC C dX10_draws_1 rfl (lv' := [(2, .int p1), (0, .ref h_t), (1, .int p1)]) (by decide) rfl ?_
  refine j_iconst C dX10_draws_2 (v := (0 : Int32)) (by decide) ?_
  refine j_istore_nC C dX10_draws_3 rfl (lv' := [(3, .int ((0 : Int32))), (2, .int p1), (0, .ref h_t), (1, .int p1)]) (by decide) rfl ?_
  refine j_sub (lv' := [(0, .ref h_t), (2, .int p1), (3, .int ((0 : Int32)))]) [2, 1, 0] rfl ?_
  exact L4 p1 ((0 : Int32)) t_slot_ h
theorem dX10_evening_0 : decode cX10_evening 0 = .ok (.iload_n 1, 1) := by decide +kernel
theorem dX10_evening_1 : decode cX10_evening 1 = .ok (.i2l, 1) := by decide +kernel
theorem dX10_evening_2 : decode cX10_evening 2 = .ok (.lconst 0, 1) := by decide +kernel
theorem dX10_evening_3 : decode cX10_evening 3 = .ok (.ldc2_w 204, 3) := by decide +kernel
theorem dX10_evening_6 : decode cX10_evening 6 = .ok (.invokestatic 60, 3) := by decide +kernel
theorem dX10_evening_9 : decode cX10_evening 9 = .ok (.ifCond .eq 13, 3) := by decide +kernel
theorem dX10_evening_12 : decode cX10_evening 12 = .ok (.iload_n 2, 1) := by decide +kernel
theorem dX10_evening_13 : decode cX10_evening 13 = .ok (.i2l, 1) := by decide +kernel
theorem dX10_evening_14 : decode cX10_evening 14 = .ok (.lconst 0, 1) := by decide +kernel
theorem dX10_evening_15 : decode cX10_evening 15 = .ok (.lconst 1, 1) := by decide +kernel
theorem dX10_evening_16 : decode cX10_evening 16 = .ok (.invokestatic 60, 3) := by decide +kernel
theorem dX10_evening_19 : decode cX10_evening 19 = .ok (.ifCond .ne 5, 3) := by decide +kernel
theorem dX10_evening_22 : decode cX10_evening 22 = .ok (.iconst (-1), 1) := by decide +kernel
theorem dX10_evening_23 : decode cX10_evening 23 = .ok (.ireturn, 1) := by decide +kernel
theorem dX10_evening_24 : decode cX10_evening 24 = .ok (.aload_n 0, 1) := by decide +kernel
theorem dX10_evening_25 : decode cX10_evening 25 = .ok (.iconst 0, 1) := by decide +kernel
theorem dX10_evening_26 : decode cX10_evening 26 = .ok (.bipush 11, 2) := by decide +kernel
theorem dX10_evening_28 : decode cX10_evening 28 = .ok (.invokevirtual 130, 3) := by decide +kernel
theorem dX10_evening_31 : decode cX10_evening 31 = .ok (.aload_n 0, 1) := by decide +kernel
theorem dX10_evening_32 : decode cX10_evening 32 = .ok (.bipush 11, 2) := by decide +kernel
theorem dX10_evening_34 : decode cX10_evening 34 = .ok (.invokevirtual 144, 3) := by decide +kernel
theorem dX10_evening_37 : decode cX10_evening 37 = .ok (.istore_n 3, 1) := by decide +kernel
theorem dX10_evening_38 : decode cX10_evening 38 = .ok (.iconst 0, 1) := by decide +kernel
theorem dX10_evening_39 : decode cX10_evening 39 = .ok (.istore 4, 2) := by decide +kernel
theorem dX10_evening_41 : decode cX10_evening 41 = .ok (.iload_n 3, 1) := by decide +kernel
theorem dX10_evening_42 : decode cX10_evening 42 = .ok (.ifCond .le 51, 3) := by decide +kernel
theorem dX10_evening_45 : decode cX10_evening 45 = .ok (.ldc2_w 206, 3) := by decide +kernel
theorem dX10_evening_48 : decode cX10_evening 48 = .ok (.iload_n 1, 1) := by decide +kernel
theorem dX10_evening_49 : decode cX10_evening 49 = .ok (.i2l, 1) := by decide +kernel
theorem dX10_evening_50 : decode cX10_evening 50 = .ok (.lmul, 1) := by decide +kernel
theorem dX10_evening_51 : decode cX10_evening 51 = .ok (.ldc2_w 208, 3) := by decide +kernel
theorem dX10_evening_54 : decode cX10_evening 54 = .ok (.iload 4, 2) := by decide +kernel
theorem dX10_evening_56 : decode cX10_evening 56 = .ok (.i2l, 1) := by decide +kernel
theorem dX10_evening_57 : decode cX10_evening 57 = .ok (.lmul, 1) := by decide +kernel
theorem dX10_evening_58 : decode cX10_evening 58 = .ok (.ladd, 1) := by decide +kernel
theorem dX10_evening_59 : decode cX10_evening 59 = .ok (.lconst 1, 1) := by decide +kernel
theorem dX10_evening_60 : decode cX10_evening 60 = .ok (.ladd, 1) := by decide +kernel
theorem dX10_evening_61 : decode cX10_evening 61 = .ok (.lstore 5, 2) := by decide +kernel
theorem dX10_evening_63 : decode cX10_evening 63 = .ok (.aload_n 0, 1) := by decide +kernel
theorem dX10_evening_64 : decode cX10_evening 64 = .ok (.lload 5, 2) := by decide +kernel
theorem dX10_evening_66 : decode cX10_evening 66 = .ok (.lload 5, 2) := by decide +kernel
theorem dX10_evening_68 : decode cX10_evening 68 = .ok (.lmul, 1) := by decide +kernel
theorem dX10_evening_69 : decode cX10_evening 69 = .ok (.ldc2_w 210, 3) := by decide +kernel
theorem dX10_evening_72 : decode cX10_evening 72 = .ok (.lrem, 1) := by decide +kernel
theorem dX10_evening_73 : decode cX10_evening 73 = .ok (.iload_n 3, 1) := by decide +kernel
theorem dX10_evening_74 : decode cX10_evening 74 = .ok (.i2l, 1) := by decide +kernel
theorem dX10_evening_75 : decode cX10_evening 75 = .ok (.lrem, 1) := by decide +kernel
theorem dX10_evening_76 : decode cX10_evening 76 = .ok (.l2i, 1) := by decide +kernel
theorem dX10_evening_77 : decode cX10_evening 77 = .ok (.invokevirtual 212, 3) := by decide +kernel
theorem dX10_evening_80 : decode cX10_evening 80 = .ok (.iinc 4 1, 3) := by decide +kernel
theorem dX10_evening_83 : decode cX10_evening 83 = .ok (.aload_n 0, 1) := by decide +kernel
theorem dX10_evening_84 : decode cX10_evening 84 = .ok (.bipush 11, 2) := by decide +kernel
theorem dX10_evening_86 : decode cX10_evening 86 = .ok (.invokevirtual 144, 3) := by decide +kernel
theorem dX10_evening_89 : decode cX10_evening 89 = .ok (.istore_n 3, 1) := by decide +kernel
theorem dX10_evening_90 : decode cX10_evening 90 = .ok (.goto (-49), 3) := by decide +kernel
theorem dX10_evening_93 : decode cX10_evening 93 = .ok (.iload_n 2, 1) := by decide +kernel
theorem dX10_evening_94 : decode cX10_evening 94 = .ok (.ifCond .ne 14, 3) := by decide +kernel
theorem dX10_evening_97 : decode cX10_evening 97 = .ok (.aload_n 0, 1) := by decide +kernel
theorem dX10_evening_98 : decode cX10_evening 98 = .ok (.getfield 30, 3) := by decide +kernel
theorem dX10_evening_101 : decode cX10_evening 101 = .ok (.sipush 239, 3) := by decide +kernel
theorem dX10_evening_104 : decode cX10_evening 104 = .ok (.iaload, 1) := by decide +kernel
theorem dX10_evening_105 : decode cX10_evening 105 = .ok (.goto 9, 3) := by decide +kernel
theorem dX10_evening_108 : decode cX10_evening 108 = .ok (.aload_n 0, 1) := by decide +kernel
theorem dX10_evening_109 : decode cX10_evening 109 = .ok (.bipush 11, 2) := by decide +kernel
theorem dX10_evening_111 : decode cX10_evening 111 = .ok (.invokevirtual 141, 3) := by decide +kernel
theorem dX10_evening_114 : decode cX10_evening 114 = .ok (.ireturn, 1) := by decide +kernel
def bX10_evening_41 (F : Nat) (t_stones : Int32) (t_told_ : Nat → Int32) (t_touches_ : Nat → Int32) (t_has_ : Nat → Int32) (t_beside_ : Nat → Int32) (p1 : Int32) (p2 : Int32)  (k41 : Int32 → Int32 → (Nat → Int32) → Option (Int32 × (Nat → Int32))) (x11 : Int32) (x12 : Int32) (m_t_slot__13 : Nat → Int32) : Option (Int32 × (Nat → Int32)) :=
(if x11 ≤ 0 then
(if p2 = 0 then
(some (m_t_slot__13 ((239 : Int32)).toNatClampNeg, m_t_slot__13))
else
((fX10_painted F t_stones m_t_slot__13 ((11 : Int32))).bind fun r16 =>
(some (r16, m_t_slot__13))))
else
(jl_let (((((7919 : Int64)) * p1.toInt64) + (((6151 : Int64)) * x12.toInt64)) + ((1 : Int64))) fun v18 =>
(if x11.toInt64 = 0 then none else
((fX10_draws F t_stones t_told_ t_touches_ t_has_ t_beside_ m_t_slot__13 ((((v18 * v18) - (v18 * v18) / ((65521 : Int64)) * ((65521 : Int64))) - ((v18 * v18) - (v18 * v18) / ((65521 : Int64)) * ((65521 : Int64))) / x11.toInt64 * x11.toInt64).toInt32)).bind fun r20 =>
(jl_let (x12 + Int32.ofInt (1)) fun v22 =>
((fX10_mays F t_stones t_told_ t_touches_ t_has_ t_beside_ r20 ((11 : Int32))).bind fun r23 =>
(k41 r23 v22 r20)))))))
def lX10_evening_41 (F : Nat) (t_stones : Int32) (t_told_ : Nat → Int32) (t_touches_ : Nat → Int32) (t_has_ : Nat → Int32) (t_beside_ : Nat → Int32) (p1 : Int32) (p2 : Int32)  (F2 : Nat) (x11 : Int32) (x12 : Int32) (m_t_slot__13 : Nat → Int32) : Option (Int32 × (Nat → Int32)) := jl_loop3 (bX10_evening_41 F t_stones t_told_ t_touches_ t_has_ t_beside_ p1 p2 ) F2 x11 x12 m_t_slot__13
def fX10_evening (F : Nat) (t_stones : Int32) (t_told_ : Nat → Int32) (t_touches_ : Nat → Int32) (t_has_ : Nat → Int32) (t_beside_ : Nat → Int32) (t_slot_ : Nat → Int32) (p1 : Int32) (p2 : Int32) : Option (Int32 × (Nat → Int32)) :=
((fX10_in p1.toInt64 ((0 : Int64)) ((9999 : Int64))).bind fun r1 =>
(if r1 = 0 then
(some ((-1 : Int32), t_slot_))
else
((fX10_in p2.toInt64 ((0 : Int64)) ((1 : Int64))).bind fun r4 =>
(if r4 = 0 then
(some ((-1 : Int32), t_slot_))
else
((fX10_copies F t_slot_ ((0 : Int32)) ((11 : Int32))).bind fun r7 =>
((fX10_mays F t_stones t_told_ t_touches_ t_has_ t_beside_ r7 ((11 : Int32))).bind fun r9 =>
(lX10_evening_41 F t_stones t_told_ t_touches_ t_has_ t_beside_ p1 p2 F r9 ((0 : Int32)) r7)))))))
def oX10_evening (D : jv_D) (h_t : Nat) (h_t_text : Nat) (h_t_told : Nat) (h_t_touches : Nat) (h_t_has : Nat) (h_t_old : Nat) (h_t_beside : Nat) (h_t_slot : Nat) (h_t_row : Nat) (h_t_free : Nat) (h_t_worth : Nat) (h_t_fore : Nat) (h_t_back : Nat) (h_t_got : Nat) (t_length : Int32) (t_at : Int32) (t_stones : Int32) (t_kept : Int32) (t_done : Int32) (t_rows : Int32) (t_frees : Int32) (t_fewest : Int32) (t_told_ : Nat → Int32) (t_touches_ : Nat → Int32) (t_has_ : Nat → Int32) (t_beside_ : Nat → Int32) (r : Int32 × (Nat → Int32)) : va_W := [(h_t, .inr (8, [.int t_length, .ref h_t_text, .int t_at, .ref h_t_told, .ref h_t_touches, .ref h_t_has, .ref h_t_old, .ref h_t_beside, .int t_stones, .ref h_t_slot, .int t_kept, .int t_done, .int t_rows, .ref h_t_row, .ref h_t_free, .int t_frees, .ref h_t_worth, .ref h_t_fore, .ref h_t_back, .int t_fewest, .ref h_t_got])), (h_t_told, jI D 8 t_told_), (h_t_touches, jZ D 32 t_touches_), (h_t_has, jI D 4 t_has_), (h_t_beside, jI D 9 t_beside_), (h_t_slot, jI D 240 r.2)]
set_option maxHeartbeats 40000000 in
set_option maxRecDepth 100000 in
theorem mX10_evening (l : Launch) (D : jv_D) (F : Nat) (h_t : Nat) (h_t_text : Nat) (h_t_told : Nat) (h_t_touches : Nat) (h_t_has : Nat) (h_t_old : Nat) (h_t_beside : Nat) (h_t_slot : Nat) (h_t_row : Nat) (h_t_free : Nat) (h_t_worth : Nat) (h_t_fore : Nat) (h_t_back : Nat) (h_t_got : Nat) (t_length : Int32) (t_at : Int32) (t_stones : Int32) (t_kept : Int32) (t_done : Int32) (t_rows : Int32) (t_frees : Int32) (t_fewest : Int32) (t_told_ : Nat → Int32) (t_touches_ : Nat → Int32) (t_has_ : Nat → Int32) (t_beside_ : Nat → Int32) (t_slot_ : Nat → Int32) (p1 : Int32) (p2 : Int32) (r : Int32 × (Nat → Int32)) (h : fX10_evening F t_stones t_told_ t_touches_ t_has_ t_beside_ t_slot_ p1 p2 = some r) : MM l yX10_evening (jW yX10_evening cX10_evening 7 (some .int)) ({ frames := 3, cells := 0, slots := 0, locals := 74 }) D [.ref h_t, .int p1, .int p2] [(h_t, .inr (8, [.int t_length, .ref h_t_text, .int t_at, .ref h_t_told, .ref h_t_touches, .ref h_t_has, .ref h_t_old, .ref h_t_beside, .int t_stones, .ref h_t_slot, .int t_kept, .int t_done, .int t_rows, .ref h_t_row, .ref h_t_free, .int t_frees, .ref h_t_worth, .ref h_t_fore, .ref h_t_back, .int t_fewest, .ref h_t_got])), (h_t_told, jI D 8 t_told_), (h_t_touches, jZ D 32 t_touches_), (h_t_has, jI D 4 t_has_), (h_t_beside, jI D 9 t_beside_), (h_t_slot, jI D 240 t_slot_)] (some (.int r.1)) (oX10_evening D h_t h_t_text h_t_told h_t_touches h_t_has h_t_old h_t_beside h_t_slot h_t_row h_t_free h_t_worth h_t_fore h_t_back h_t_got t_length t_at t_stones t_kept t_done t_rows t_frees t_fewest t_told_ t_touches_ t_has_ t_beside_ r) := by
  refine mn_of hpX10_evening (Nat.le_of_ble_eq_true rfl) ?_
  intro X hXl C E0 hN
  subst hXl
  replace C : JC D X 7 RX10 cX10_evening ({ frames := 3, cells := 0, slots := 0, locals := 74 }) := C
  have E : JE D X 0 0 (some .int) (fun _ : Unit => (some (.int r.1))) (fun _ : Unit => (oX10_evening D h_t h_t_text h_t_told h_t_touches h_t_has h_t_old h_t_beside h_t_slot h_t_row h_t_free h_t_worth h_t_fore h_t_back h_t_got t_length t_at t_stones t_kept t_done t_rows t_frees t_fewest t_told_ t_touches_ t_has_ t_beside_ r)) := E0 0 0 rfl rfl
  clear E0 hN
  show JJ D X 7 0 0 0 [(0, .ref h_t), (1, .int p1), (2, .int p2)] [] [(h_t, .inr (8, [.int t_length, .ref h_t_text, .int t_at, .ref h_t_told, .ref h_t_touches, .ref h_t_has, .ref h_t_old, .ref h_t_beside, .int t_stones, .ref h_t_slot, .int t_kept, .int t_done, .int t_rows, .ref h_t_row, .ref h_t_free, .int t_frees, .ref h_t_worth, .ref h_t_fore, .ref h_t_back, .int t_fewest, .ref h_t_got])), (h_t_told, jI D 8 t_told_), (h_t_touches, jZ D 32 t_touches_), (h_t_has, jI D 4 t_has_), (h_t_beside, jI D 9 t_beside_), (h_t_slot, jI D 240 t_slot_)]
  unfold fX10_evening at h
  have L41 : ∀ (x11 : Int32) (x12 : Int32) (m_t_slot__13 : Nat → Int32), lX10_evening_41 F t_stones t_told_ t_touches_ t_has_ t_beside_ p1 p2  F x11 x12 m_t_slot__13 = some r → JJ D X 7 0 0 41 [(0, .ref h_t), (1, .int p1), (2, .int p2), (3, .int x11), (4, .int x12)] [] [(h_t, .inr (8, [.int t_length, .ref h_t_text, .int t_at, .ref h_t_told, .ref h_t_touches, .ref h_t_has, .ref h_t_old, .ref h_t_beside, .int t_stones, .ref h_t_slot, .int t_kept, .int t_done, .int t_rows, .ref h_t_row, .ref h_t_free, .int t_frees, .ref h_t_worth, .ref h_t_fore, .ref h_t_back, .int t_fewest, .ref h_t_got])), (h_t_told, jI D 8 t_told_), (h_t_touches, jZ D 32 t_touches_), (h_t_has, jI D 4 t_has_), (h_t_beside, jI D 9 t_beside_), (h_t_slot, jI D 240 m_t_slot__13)] := by
    intro x11 x12 m_t_slot__13 h
    refine jl_ind3 (fun x11 x12 m_t_slot__13 => JJ D X 7 0 0 41 [(0, .ref h_t), (1, .int p1), (2, .int p2), (3, .int x11), (4, .int x12)] [] [(h_t, .inr (8, [.int t_length, .ref h_t_text, .int t_at, .ref h_t_told, .ref h_t_touches, .ref h_t_has, .ref h_t_old, .ref h_t_beside, .int t_stones, .ref h_t_slot, .int t_kept, .int t_done, .int t_rows, .ref h_t_row, .ref h_t_free, .int t_frees, .ref h_t_worth, .ref h_t_fore, .ref h_t_back, .int t_fewest, .ref h_t_got])), (h_t_told, jI D 8 t_told_), (h_t_touches, jZ D 32 t_touches_), (h_t_has, jI D 4 t_has_), (h_t_beside, jI D 9 t_beside_), (h_t_slot, jI D 240 m_t_slot__13)]) ?_ F x11 x12 m_t_slot__13 h
    clear h x11 x12 m_t_slot__13
    intro k41 i41 x11 x12 m_t_slot__13 h
    replace i41 : ∀ (x11 : Int32) (x12 : Int32) (m_t_slot__13 : Nat → Int32), k41 x11 x12 m_t_slot__13 = some r → JJ D X 7 0 0 41 [(0, .ref h_t), (1, .int p1), (2, .int p2), (3, .int x11), (4, .int x12)] [] [(h_t, .inr (8, [.int t_length, .ref h_t_text, .int t_at, .ref h_t_told, .ref h_t_touches, .ref h_t_has, .ref h_t_old, .ref h_t_beside, .int t_stones, .ref h_t_slot, .int t_kept, .int t_done, .int t_rows, .ref h_t_row, .ref h_t_free, .int t_frees, .ref h_t_worth, .ref h_t_fore, .ref h_t_back, .int t_fewest, .ref h_t_got])), (h_t_told, jI D 8 t_told_), (h_t_touches, jZ D 32 t_touches_), (h_t_has, jI D 4 t_has_), (h_t_beside, jI D 9 t_beside_), (h_t_slot, jI D 240 m_t_slot__13)] := i41
    show JJ D X 7 0 0 41 [(0, .ref h_t), (1, .int p1), (2, .int p2), (3, .int x11), (4, .int x12)] [] [(h_t, .inr (8, [.int t_length, .ref h_t_text, .int t_at, .ref h_t_told, .ref h_t_touches, .ref h_t_has, .ref h_t_old, .ref h_t_beside, .int t_stones, .ref h_t_slot, .int t_kept, .int t_done, .int t_rows, .ref h_t_row, .ref h_t_free, .int t_frees, .ref h_t_worth, .ref h_t_fore, .ref h_t_back, .int t_fewest, .ref h_t_got])), (h_t_told, jI D 8 t_told_), (h_t_touches, jZ D 32 t_touches_), (h_t_has, jI D 4 t_has_), (h_t_beside, jI D 9 t_beside_), (h_t_slot, jI D 240 m_t_slot__13)]
    unfold bX10_evening_41 at h
    refine j_iload_n C dX10_evening_41 rfl 3 rfl ?_
    refine j_if_le C (tgt := 93) dX10_evening_42 (by decide) h (fun c14 h => ?_) (fun c14 h => ?_)
    · refine j_iload_n C dX10_evening_93 rfl 2 rfl ?_
      refine j_if_ne C (tgt := 108) dX10_evening_94 (by decide) h (fun c15 h => ?_) (fun c15 h => ?_)
      · refine j_aload_n C dX10_evening_97 rfl 0 rfl ?_
        refine j_get C ibX10 (ci := 8) 0 rfl rfl 9 (by decide) bfX10_30 (v := .ref h_t_slot) rfl dX10_evening_98 ?_
        refine j_sipush C dX10_evening_101 (v := (239 : Int32)) (by decide) ?_
        refine j_iald C 5 rfl (by unfold vp_in; decide) dX10_evening_104 ?_
        refine j_goto C dX10_evening_105 (tgt := 114) (by decide) ?_
        exact j_iretR C (r := r) (rtf := fun r => (some (.int r.1))) (wff := fun r => (oX10_evening D h_t h_t_text h_t_told h_t_touches h_t_has h_t_old h_t_beside h_t_slot h_t_row h_t_free h_t_worth h_t_fore h_t_back h_t_got t_length t_at t_stones t_kept t_done t_rows t_frees t_fewest t_told_ t_touches_ t_has_ t_beside_ r)) E h rfl rfl dX10_evening_114
      · refine j_aload_n C dX10_evening_108 rfl 0 rfl ?_
        refine j_bipush C dX10_evening_109 (v := (11 : Int32)) (by decide) ?_
        obtain ⟨r16, q17, h⟩ := jl_bind h
        refine j_cV1 C (mX10_painted (jlaunch X) D F h_t h_t_text h_t_told h_t_touches h_t_has h_t_old h_t_beside h_t_slot h_t_row h_t_free h_t_worth h_t_fore h_t_back h_t_got t_length t_at t_stones t_kept t_done t_rows t_frees t_fewest m_t_slot__13 ((11 : Int32)) r16 q17) bmX10_141 biX10_painted bsX10_painted bzX10 bcX10_painted rfl hX10_painted (rest := []) rfl (jroom_of rfl) 0 (ci := 8) rfl rfl rfl [0, 5] [1, 2, 3, 4] [4, 0, 1, 2, 3, 5] (wr := [(h_t_told, jI D 8 t_told_), (h_t_touches, jZ D 32 t_touches_), (h_t_has, jI D 4 t_has_), (h_t_beside, jI D 9 t_beside_)]) (ws2 := [(h_t, .inr (8, [.int t_length, .ref h_t_text, .int t_at, .ref h_t_told, .ref h_t_touches, .ref h_t_has, .ref h_t_old, .ref h_t_beside, .int t_stones, .ref h_t_slot, .int t_kept, .int t_done, .int t_rows, .ref h_t_row, .ref h_t_free, .int t_frees, .ref h_t_worth, .ref h_t_fore, .ref h_t_back, .int t_fewest, .ref h_t_got])), (h_t_told, jI D 8 t_told_), (h_t_touches, jZ D 32 t_touches_), (h_t_has, jI D 4 t_has_), (h_t_beside, jI D 9 t_beside_), (h_t_slot, jI D 240 m_t_slot__13)]) rfl rfl rfl rfl rfl (Nat.le_of_ble_eq_true rfl) dX10_evening_111 ?_
        exact j_iretR C (r := r) (rtf := fun r => (some (.int r.1))) (wff := fun r => (oX10_evening D h_t h_t_text h_t_told h_t_touches h_t_has h_t_old h_t_beside h_t_slot h_t_row h_t_free h_t_worth h_t_fore h_t_back h_t_got t_length t_at t_stones t_kept t_done t_rows t_frees t_fewest t_told_ t_touches_ t_has_ t_beside_ r)) E h rfl rfl dX10_evening_114
    · refine j_ldc2_w C bKX10_206 dX10_evening_45 ?_
      refine j_iload_n C dX10_evening_48 rfl 1 rfl ?_
      refine j_i2l C dX10_evening_49 ?_
      refine j_lmul C dX10_evening_50 ?_
      refine j_ldc2_w C bKX10_208 dX10_evening_51 ?_
      refine j_iload C dX10_evening_54 4 rfl ?_
      refine j_i2l C dX10_evening_56 ?_
      refine j_lmul C dX10_evening_57 ?_
      refine j_ladd C dX10_evening_58 ?_
      refine j_lconst C dX10_evening_59 (v := (1 : Int64)) (by decide) ?_
      refine j_ladd C dX10_evening_60 ?_
      refine j_lstore C dX10_evening_61 (lv' := fun v18 => [(5, .long v18), (0, .ref h_t), (1, .int p1), (2, .int p2), (3, .int x11), (4, .int x12)]) (by decide) (fun _ => rfl) h (fun v18 h => ?_)
      refine j_aload_n C dX10_evening_63 rfl 1 rfl ?_
      refine j_lload C dX10_evening_64 0 rfl ?_
      refine j_lload C dX10_evening_66 0 rfl ?_
      refine j_lmul C dX10_evening_68 ?_
      refine j_ldc2_w C bKX10_210 dX10_evening_69 ?_
      refine j_lrem C dX10_evening_72 (by decide) ?_
      refine j_iload_n C dX10_evening_73 rfl 4 rfl ?_
      refine j_i2l C dX10_evening_74 ?_
      refine jl_grd h (fun b19 h => ?_)
      refine j_lrem C dX10_evening_75 b19 ?_
      refine j_l2i C dX10_evening_76 ?_
      obtain ⟨r20, q21, h⟩ := jl_bind h
      refine j_cV0 C (mX10_draws (jlaunch X) D F h_t h_t_text h_t_told h_t_touches h_t_has h_t_old h_t_beside h_t_slot h_t_row h_t_free h_t_worth h_t_fore h_t_back h_t_got t_length t_at t_stones t_kept t_done t_rows t_frees t_fewest t_told_ t_touches_ t_has_ t_beside_ m_t_slot__13 ((((v18 * v18) - (v18 * v18) / ((65521 : Int64)) * ((65521 : Int64))) - ((v18 * v18) - (v18 * v18) / ((65521 : Int64)) * ((65521 : Int64))) / x11.toInt64 * x11.toInt64).toInt32) r20 q21) bmX10_212 biX10_draws bsX10_draws bzX10 bcX10_draws rfl hX10_draws (rest := []) rfl (jroom_of rfl) 0 (ci := 8) rfl rfl rfl [0, 1, 2, 3, 4, 5] [] [0, 1, 2, 3, 4, 5] (wr := []) (ws2 := [(h_t, .inr (8, [.int t_length, .ref h_t_text, .int t_at, .ref h_t_told, .ref h_t_touches, .ref h_t_has, .ref h_t_old, .ref h_t_beside, .int t_stones, .ref h_t_slot, .int t_kept, .int t_done, .int t_rows, .ref h_t_row, .ref h_t_free, .int t_frees, .ref h_t_worth, .ref h_t_fore, .ref h_t_back, .int t_fewest, .ref h_t_got])), (h_t_told, jI D 8 t_told_), (h_t_touches, jZ D 32 t_touches_), (h_t_has, jI D 4 t_has_), (h_t_beside, jI D 9 t_beside_), (h_t_slot, jI D 240 r20)]) rfl rfl rfl rfl rfl (Nat.le_of_ble_eq_true rfl) dX10_evening_77 ?_
      refine j_iinc C dX10_evening_80 5 rfl (lv' := fun v22 => [(4, .int v22), (5, .long v18), (0, .ref h_t), (1, .int p1), (2, .int p2), (3, .int x11)]) (by decide) (fun _ => rfl) h (fun v22 h => ?_)
      refine j_aload_n C dX10_evening_83 rfl 2 rfl ?_
      refine j_bipush C dX10_evening_84 (v := (11 : Int32)) (by decide) ?_
      obtain ⟨r23, q24, h⟩ := jl_bind h
      refine j_cV1 C (mX10_mays (jlaunch X) D F h_t h_t_text h_t_told h_t_touches h_t_has h_t_old h_t_beside h_t_slot h_t_row h_t_free h_t_worth h_t_fore h_t_back h_t_got t_length t_at t_stones t_kept t_done t_rows t_frees t_fewest t_told_ t_touches_ t_has_ t_beside_ r20 ((11 : Int32)) r23 q24) bmX10_144 biX10_mays bsX10_mays bzX10 bcX10_mays rfl hX10_mays (rest := []) rfl (jroom_of rfl) 0 (ci := 8) rfl rfl rfl [0, 1, 2, 3, 4, 5] [] [0, 1, 2, 3, 4, 5] (wr := []) (ws2 := [(h_t, .inr (8, [.int t_length, .ref h_t_text, .int t_at, .ref h_t_told, .ref h_t_touches, .ref h_t_has, .ref h_t_old, .ref h_t_beside, .int t_stones, .ref h_t_slot, .int t_kept, .int t_done, .int t_rows, .ref h_t_row, .ref h_t_free, .int t_frees, .ref h_t_worth, .ref h_t_fore, .ref h_t_back, .int t_fewest, .ref h_t_got])), (h_t_told, jI D 8 t_told_), (h_t_touches, jZ D 32 t_touches_), (h_t_has, jI D 4 t_has_), (h_t_beside, jI D 9 t_beside_), (h_t_slot, jI D 240 r20)]) rfl rfl rfl rfl rfl (Nat.le_of_ble_eq_true rfl) dX10_evening_86 ?_
      refine j_istore_nC C dX10_evening_89 rfl (lv' := [(3, .int r23), (4, .int v22), (5, .long v18), (0, .ref h_t), (1, .int p1), (2, .int p2)]) (by decide) rfl ?_
      refine j_goto C dX10_evening_90 (tgt := 41) (by decide) ?_
      refine j_sub (lv' := [(0, .ref h_t), (1, .int p1), (2, .int p2), (3, .int r23), (4, .int v22)]) [3, 4, 5, 0, 1] rfl ?_
      exact i41 r23 v22 r20 h
  refine j_iload_n C dX10_evening_0 rfl 1 rfl ?_
  refine j_i2l C dX10_evening_1 ?_
  refine j_lconst C dX10_evening_2 (v := (0 : Int64)) (by decide) ?_
  refine j_ldc2_w C bKX10_204 dX10_evening_3 ?_
  obtain ⟨r1, q2, h⟩ := jl_bind h
  refine j_cS1 C (mX10_in (jlaunch X) D p1.toInt64 ((0 : Int64)) ((9999 : Int64)) r1 q2) bmX10_60 btX10_in bzX10 bcX10_in hX10_in (rest := []) rfl (jroom_of rfl) [] [0, 1, 2, 3, 4, 5] [0, 1, 2, 3, 4, 5] (wr := [(h_t, .inr (8, [.int t_length, .ref h_t_text, .int t_at, .ref h_t_told, .ref h_t_touches, .ref h_t_has, .ref h_t_old, .ref h_t_beside, .int t_stones, .ref h_t_slot, .int t_kept, .int t_done, .int t_rows, .ref h_t_row, .ref h_t_free, .int t_frees, .ref h_t_worth, .ref h_t_fore, .ref h_t_back, .int t_fewest, .ref h_t_got])), (h_t_told, jI D 8 t_told_), (h_t_touches, jZ D 32 t_touches_), (h_t_has, jI D 4 t_has_), (h_t_beside, jI D 9 t_beside_), (h_t_slot, jI D 240 t_slot_)]) (ws2 := [(h_t, .inr (8, [.int t_length, .ref h_t_text, .int t_at, .ref h_t_told, .ref h_t_touches, .ref h_t_has, .ref h_t_old, .ref h_t_beside, .int t_stones, .ref h_t_slot, .int t_kept, .int t_done, .int t_rows, .ref h_t_row, .ref h_t_free, .int t_frees, .ref h_t_worth, .ref h_t_fore, .ref h_t_back, .int t_fewest, .ref h_t_got])), (h_t_told, jI D 8 t_told_), (h_t_touches, jZ D 32 t_touches_), (h_t_has, jI D 4 t_has_), (h_t_beside, jI D 9 t_beside_), (h_t_slot, jI D 240 t_slot_)]) rfl rfl rfl rfl rfl (Nat.le_of_ble_eq_true rfl) dX10_evening_6 ?_
  refine j_if_eq C (tgt := 22) dX10_evening_9 (by decide) h (fun c3 h => ?_) (fun c3 h => ?_)
  · refine j_iconst C dX10_evening_22 (v := (-1 : Int32)) (by decide) ?_
    exact j_iretR C (r := r) (rtf := fun r => (some (.int r.1))) (wff := fun r => (oX10_evening D h_t h_t_text h_t_told h_t_touches h_t_has h_t_old h_t_beside h_t_slot h_t_row h_t_free h_t_worth h_t_fore h_t_back h_t_got t_length t_at t_stones t_kept t_done t_rows t_frees t_fewest t_told_ t_touches_ t_has_ t_beside_ r)) E h rfl rfl dX10_evening_23
  · refine j_iload_n C dX10_evening_12 rfl 2 rfl ?_
    refine j_i2l C dX10_evening_13 ?_
    refine j_lconst C dX10_evening_14 (v := (0 : Int64)) (by decide) ?_
    refine j_lconst C dX10_evening_15 (v := (1 : Int64)) (by decide) ?_
    obtain ⟨r4, q5, h⟩ := jl_bind h
    refine j_cS1 C (mX10_in (jlaunch X) D p2.toInt64 ((0 : Int64)) ((1 : Int64)) r4 q5) bmX10_60 btX10_in bzX10 bcX10_in hX10_in (rest := []) rfl (jroom_of rfl) [] [0, 1, 2, 3, 4, 5] [0, 1, 2, 3, 4, 5] (wr := [(h_t, .inr (8, [.int t_length, .ref h_t_text, .int t_at, .ref h_t_told, .ref h_t_touches, .ref h_t_has, .ref h_t_old, .ref h_t_beside, .int t_stones, .ref h_t_slot, .int t_kept, .int t_done, .int t_rows, .ref h_t_row, .ref h_t_free, .int t_frees, .ref h_t_worth, .ref h_t_fore, .ref h_t_back, .int t_fewest, .ref h_t_got])), (h_t_told, jI D 8 t_told_), (h_t_touches, jZ D 32 t_touches_), (h_t_has, jI D 4 t_has_), (h_t_beside, jI D 9 t_beside_), (h_t_slot, jI D 240 t_slot_)]) (ws2 := [(h_t, .inr (8, [.int t_length, .ref h_t_text, .int t_at, .ref h_t_told, .ref h_t_touches, .ref h_t_has, .ref h_t_old, .ref h_t_beside, .int t_stones, .ref h_t_slot, .int t_kept, .int t_done, .int t_rows, .ref h_t_row, .ref h_t_free, .int t_frees, .ref h_t_worth, .ref h_t_fore, .ref h_t_back, .int t_fewest, .ref h_t_got])), (h_t_told, jI D 8 t_told_), (h_t_touches, jZ D 32 t_touches_), (h_t_has, jI D 4 t_has_), (h_t_beside, jI D 9 t_beside_), (h_t_slot, jI D 240 t_slot_)]) rfl rfl rfl rfl rfl (Nat.le_of_ble_eq_true rfl) dX10_evening_16 ?_
    refine j_if_ne C (tgt := 24) dX10_evening_19 (by decide) h (fun c6 h => ?_) (fun c6 h => ?_)
    · refine j_iconst C dX10_evening_22 (v := (-1 : Int32)) (by decide) ?_
      exact j_iretR C (r := r) (rtf := fun r => (some (.int r.1))) (wff := fun r => (oX10_evening D h_t h_t_text h_t_told h_t_touches h_t_has h_t_old h_t_beside h_t_slot h_t_row h_t_free h_t_worth h_t_fore h_t_back h_t_got t_length t_at t_stones t_kept t_done t_rows t_frees t_fewest t_told_ t_touches_ t_has_ t_beside_ r)) E h rfl rfl dX10_evening_23
    · refine j_aload_n C dX10_evening_24 rfl 0 rfl ?_
      refine j_iconst C dX10_evening_25 (v := (0 : Int32)) (by decide) ?_
      refine j_bipush C dX10_evening_26 (v := (11 : Int32)) (by decide) ?_
      obtain ⟨r7, q8, h⟩ := jl_bind h
      refine j_cV0 C (mX10_copies (jlaunch X) D F h_t h_t_text h_t_told h_t_touches h_t_has h_t_old h_t_beside h_t_slot h_t_row h_t_free h_t_worth h_t_fore h_t_back h_t_got t_length t_at t_stones t_kept t_done t_rows t_frees t_fewest t_slot_ ((0 : Int32)) ((11 : Int32)) r7 q8) bmX10_130 biX10_copies bsX10_copies bzX10 bcX10_copies rfl hX10_copies (rest := []) rfl (jroom_of rfl) 0 (ci := 8) rfl rfl rfl [0, 5] [1, 2, 3, 4] [4, 0, 1, 2, 3, 5] (wr := [(h_t_told, jI D 8 t_told_), (h_t_touches, jZ D 32 t_touches_), (h_t_has, jI D 4 t_has_), (h_t_beside, jI D 9 t_beside_)]) (ws2 := [(h_t, .inr (8, [.int t_length, .ref h_t_text, .int t_at, .ref h_t_told, .ref h_t_touches, .ref h_t_has, .ref h_t_old, .ref h_t_beside, .int t_stones, .ref h_t_slot, .int t_kept, .int t_done, .int t_rows, .ref h_t_row, .ref h_t_free, .int t_frees, .ref h_t_worth, .ref h_t_fore, .ref h_t_back, .int t_fewest, .ref h_t_got])), (h_t_told, jI D 8 t_told_), (h_t_touches, jZ D 32 t_touches_), (h_t_has, jI D 4 t_has_), (h_t_beside, jI D 9 t_beside_), (h_t_slot, jI D 240 r7)]) rfl rfl rfl rfl rfl (Nat.le_of_ble_eq_true rfl) dX10_evening_28 ?_
      refine j_aload_n C dX10_evening_31 rfl 0 rfl ?_
      refine j_bipush C dX10_evening_32 (v := (11 : Int32)) (by decide) ?_
      obtain ⟨r9, q10, h⟩ := jl_bind h
      refine j_cV1 C (mX10_mays (jlaunch X) D F h_t h_t_text h_t_told h_t_touches h_t_has h_t_old h_t_beside h_t_slot h_t_row h_t_free h_t_worth h_t_fore h_t_back h_t_got t_length t_at t_stones t_kept t_done t_rows t_frees t_fewest t_told_ t_touches_ t_has_ t_beside_ r7 ((11 : Int32)) r9 q10) bmX10_144 biX10_mays bsX10_mays bzX10 bcX10_mays rfl hX10_mays (rest := []) rfl (jroom_of rfl) 0 (ci := 8) rfl rfl rfl [0, 1, 2, 3, 4, 5] [] [0, 1, 2, 3, 4, 5] (wr := []) (ws2 := [(h_t, .inr (8, [.int t_length, .ref h_t_text, .int t_at, .ref h_t_told, .ref h_t_touches, .ref h_t_has, .ref h_t_old, .ref h_t_beside, .int t_stones, .ref h_t_slot, .int t_kept, .int t_done, .int t_rows, .ref h_t_row, .ref h_t_free, .int t_frees, .ref h_t_worth, .ref h_t_fore, .ref h_t_back, .int t_fewest, .ref h_t_got])), (h_t_told, jI D 8 t_told_), (h_t_touches, jZ D 32 t_touches_), (h_t_has, jI D 4 t_has_), (h_t_beside, jI D 9 t_beside_), (h_t_slot, jI D 240 r7)]) rfl rfl rfl rfl rfl (Nat.le_of_ble_eq_true rfl) dX10_evening_34 ?_
      refine j_istore_nC C dX10_evening_37 rfl (lv' := [(3, .int r9), (0, .ref h_t), (1, .int p1), (2, .int p2)]) (by decide) rfl ?_
      refine j_iconst C dX10_evening_38 (v := (0 : Int32)) (by decide) ?_
      refine j_istoreC C dX10_evening_39 (lv' := [(4, .int ((0 : Int32))), (3, .int r9), (0, .ref h_t), (1, .int p1), (2, .int p2)]) (by decide) rfl ?_
      refine j_sub (lv' := [(0, .ref h_t), (1, .int p1), (2, .int p2), (3, .int r9), (4, .int ((0 : Int32)))]) [2, 3, 4, 1, 0] rfl ?_
      exact L41 r9 ((0 : Int32)) r7 h
theorem dX10_keep_0 : decode cX10_keep 0 = .ok (.aload_n 0, 1) := by decide +kernel
theorem dX10_keep_1 : decode cX10_keep 1 = .ok (.getfield 100, 3) := by decide +kernel
theorem dX10_keep_4 : decode cX10_keep 4 = .ok (.iconst 2, 1) := by decide +kernel
theorem dX10_keep_5 : decode cX10_keep 5 = .ok (.if_icmp .ne 6, 3) := by decide +kernel
theorem dX10_keep_8 : decode cX10_keep 8 = .ok (.bipush (-3), 2) := by decide +kernel
theorem dX10_keep_10 : decode cX10_keep 10 = .ok (.ireturn, 1) := by decide +kernel
theorem dX10_keep_11 : decode cX10_keep 11 = .ok (.aload_n 0, 1) := by decide +kernel
theorem dX10_keep_12 : decode cX10_keep 12 = .ok (.dup, 1) := by decide +kernel
theorem dX10_keep_13 : decode cX10_keep 13 = .ok (.getfield 100, 3) := by decide +kernel
theorem dX10_keep_16 : decode cX10_keep 16 = .ok (.iconst 1, 1) := by decide +kernel
theorem dX10_keep_17 : decode cX10_keep 17 = .ok (.iadd, 1) := by decide +kernel
theorem dX10_keep_18 : decode cX10_keep 18 = .ok (.putfield 100, 3) := by decide +kernel
theorem dX10_keep_21 : decode cX10_keep 21 = .ok (.aload_n 0, 1) := by decide +kernel
theorem dX10_keep_22 : decode cX10_keep 22 = .ok (.iconst 0, 1) := by decide +kernel
theorem dX10_keep_23 : decode cX10_keep 23 = .ok (.aload_n 0, 1) := by decide +kernel
theorem dX10_keep_24 : decode cX10_keep 24 = .ok (.getfield 100, 3) := by decide +kernel
theorem dX10_keep_27 : decode cX10_keep 27 = .ok (.invokevirtual 130, 3) := by decide +kernel
theorem dX10_keep_30 : decode cX10_keep 30 = .ok (.aload_n 0, 1) := by decide +kernel
theorem dX10_keep_31 : decode cX10_keep 31 = .ok (.getfield 100, 3) := by decide +kernel
theorem dX10_keep_34 : decode cX10_keep 34 = .ok (.ireturn, 1) := by decide +kernel
def fX10_keep (F : Nat) (t_kept : Int32) (t_slot_ : Nat → Int32) : Option (Int32 × Int32 × (Nat → Int32)) :=
(if t_kept = ((2 : Int32)) then
(some ((-3 : Int32), t_kept, t_slot_))
else
(jl_let (t_kept + ((1 : Int32))) fun w2 =>
((fX10_copies F t_slot_ ((0 : Int32)) w2).bind fun r3 =>
(some (w2, w2, r3)))))
def oX10_keep (D : jv_D) (h_t : Nat) (h_t_text : Nat) (h_t_told : Nat) (h_t_touches : Nat) (h_t_has : Nat) (h_t_old : Nat) (h_t_beside : Nat) (h_t_slot : Nat) (h_t_row : Nat) (h_t_free : Nat) (h_t_worth : Nat) (h_t_fore : Nat) (h_t_back : Nat) (h_t_got : Nat) (t_length : Int32) (t_at : Int32) (t_stones : Int32) (t_done : Int32) (t_rows : Int32) (t_frees : Int32) (t_fewest : Int32) (r : Int32 × Int32 × (Nat → Int32)) : va_W := [(h_t, .inr (8, [.int t_length, .ref h_t_text, .int t_at, .ref h_t_told, .ref h_t_touches, .ref h_t_has, .ref h_t_old, .ref h_t_beside, .int t_stones, .ref h_t_slot, .int r.2.1, .int t_done, .int t_rows, .ref h_t_row, .ref h_t_free, .int t_frees, .ref h_t_worth, .ref h_t_fore, .ref h_t_back, .int t_fewest, .ref h_t_got])), (h_t_slot, jI D 240 r.2.2)]
set_option maxHeartbeats 40000000 in
set_option maxRecDepth 100000 in
theorem mX10_keep (l : Launch) (D : jv_D) (F : Nat) (h_t : Nat) (h_t_text : Nat) (h_t_told : Nat) (h_t_touches : Nat) (h_t_has : Nat) (h_t_old : Nat) (h_t_beside : Nat) (h_t_slot : Nat) (h_t_row : Nat) (h_t_free : Nat) (h_t_worth : Nat) (h_t_fore : Nat) (h_t_back : Nat) (h_t_got : Nat) (t_length : Int32) (t_at : Int32) (t_stones : Int32) (t_kept : Int32) (t_done : Int32) (t_rows : Int32) (t_frees : Int32) (t_fewest : Int32) (t_slot_ : Nat → Int32) (r : Int32 × Int32 × (Nat → Int32)) (h : fX10_keep F t_kept t_slot_ = some r) : MM l yX10_keep (jW yX10_keep cX10_keep 1 (some .int)) ({ frames := 1, cells := 0, slots := 0, locals := 23 }) D [.ref h_t] [(h_t, .inr (8, [.int t_length, .ref h_t_text, .int t_at, .ref h_t_told, .ref h_t_touches, .ref h_t_has, .ref h_t_old, .ref h_t_beside, .int t_stones, .ref h_t_slot, .int t_kept, .int t_done, .int t_rows, .ref h_t_row, .ref h_t_free, .int t_frees, .ref h_t_worth, .ref h_t_fore, .ref h_t_back, .int t_fewest, .ref h_t_got])), (h_t_slot, jI D 240 t_slot_)] (some (.int r.1)) (oX10_keep D h_t h_t_text h_t_told h_t_touches h_t_has h_t_old h_t_beside h_t_slot h_t_row h_t_free h_t_worth h_t_fore h_t_back h_t_got t_length t_at t_stones t_done t_rows t_frees t_fewest r) := by
  refine mn_of hpX10_keep (Nat.le_of_ble_eq_true rfl) ?_
  intro X hXl C E0 hN
  subst hXl
  replace C : JC D X 1 RX10 cX10_keep ({ frames := 1, cells := 0, slots := 0, locals := 23 }) := C
  have E : JE D X 0 0 (some .int) (fun _ : Unit => (some (.int r.1))) (fun _ : Unit => (oX10_keep D h_t h_t_text h_t_told h_t_touches h_t_has h_t_old h_t_beside h_t_slot h_t_row h_t_free h_t_worth h_t_fore h_t_back h_t_got t_length t_at t_stones t_done t_rows t_frees t_fewest r)) := E0 0 0 rfl rfl
  clear E0 hN
  show JJ D X 1 0 0 0 [(0, .ref h_t)] [] [(h_t, .inr (8, [.int t_length, .ref h_t_text, .int t_at, .ref h_t_told, .ref h_t_touches, .ref h_t_has, .ref h_t_old, .ref h_t_beside, .int t_stones, .ref h_t_slot, .int t_kept, .int t_done, .int t_rows, .ref h_t_row, .ref h_t_free, .int t_frees, .ref h_t_worth, .ref h_t_fore, .ref h_t_back, .int t_fewest, .ref h_t_got])), (h_t_slot, jI D 240 t_slot_)]
  unfold fX10_keep at h
  refine j_aload_n C dX10_keep_0 rfl 0 rfl ?_
  refine j_get C ibX10 (ci := 8) 0 rfl rfl 10 (by decide) bfX10_100 (v := .int t_kept) rfl dX10_keep_1 ?_
  refine j_iconst C dX10_keep_4 (v := (2 : Int32)) (by decide) ?_
  refine j_icmp_ne C (tgt := 11) dX10_keep_5 (by decide) h (fun c1 h => ?_) (fun c1 h => ?_)
  · refine j_bipush C dX10_keep_8 (v := (-3 : Int32)) (by decide) ?_
    exact j_iretR C (r := r) (rtf := fun r => (some (.int r.1))) (wff := fun r => (oX10_keep D h_t h_t_text h_t_told h_t_touches h_t_has h_t_old h_t_beside h_t_slot h_t_row h_t_free h_t_worth h_t_fore h_t_back h_t_got t_length t_at t_stones t_done t_rows t_frees t_fewest r)) E h rfl rfl dX10_keep_10
  · refine j_aload_n C dX10_keep_11 rfl 0 rfl ?_
    refine j_dup C dX10_keep_12 rfl ?_
    refine j_get C ibX10 (ci := 8) 0 rfl rfl 10 (by decide) bfX10_100 (v := .int t_kept) rfl dX10_keep_13 ?_
    refine j_iconst C dX10_keep_16 (v := (1 : Int32)) (by decide) ?_
    refine j_iadd C dX10_keep_17 ?_
    refine j_nmi h (fun w2 h => ?_)
    refine j_put C ibX10 tyX10 tyX10_ok nmX10 (ci := 8) 0 rfl rfl 10 (by decide) bfX10_100 rfl rfl rfl (Nat.le_of_ble_eq_true rfl) dX10_keep_18 (ws' := [(h_t, .inr (8, [.int t_length, .ref h_t_text, .int t_at, .ref h_t_told, .ref h_t_touches, .ref h_t_has, .ref h_t_old, .ref h_t_beside, .int t_stones, .ref h_t_slot, .int w2, .int t_done, .int t_rows, .ref h_t_row, .ref h_t_free, .int t_frees, .ref h_t_worth, .ref h_t_fore, .ref h_t_back, .int t_fewest, .ref h_t_got])), (h_t_slot, jI D 240 t_slot_)]) rfl ?_
    refine j_aload_n C dX10_keep_21 rfl 0 rfl ?_
    refine j_iconst C dX10_keep_22 (v := (0 : Int32)) (by decide) ?_
    refine j_aload_n C dX10_keep_23 rfl 0 rfl ?_
    refine j_get C ibX10 (ci := 8) 0 rfl rfl 10 (by decide) bfX10_100 (v := .int w2) rfl dX10_keep_24 ?_
    obtain ⟨r3, q4, h⟩ := jl_bind h
    refine j_cV0 C (mX10_copies (jlaunch X) D F h_t h_t_text h_t_told h_t_touches h_t_has h_t_old h_t_beside h_t_slot h_t_row h_t_free h_t_worth h_t_fore h_t_back h_t_got t_length t_at t_stones w2 t_done t_rows t_frees t_fewest t_slot_ ((0 : Int32)) w2 r3 q4) bmX10_130 biX10_copies bsX10_copies bzX10 bcX10_copies rfl hX10_copies (rest := []) rfl (jroom_of rfl) 0 (ci := 8) rfl rfl rfl [0, 1] [] [0, 1] (wr := []) (ws2 := [(h_t, .inr (8, [.int t_length, .ref h_t_text, .int t_at, .ref h_t_told, .ref h_t_touches, .ref h_t_has, .ref h_t_old, .ref h_t_beside, .int t_stones, .ref h_t_slot, .int w2, .int t_done, .int t_rows, .ref h_t_row, .ref h_t_free, .int t_frees, .ref h_t_worth, .ref h_t_fore, .ref h_t_back, .int t_fewest, .ref h_t_got])), (h_t_slot, jI D 240 r3)]) rfl rfl rfl rfl rfl (Nat.le_of_ble_eq_true rfl) dX10_keep_27 ?_
    refine j_aload_n C dX10_keep_30 rfl 0 rfl ?_
    refine j_get C ibX10 (ci := 8) 0 rfl rfl 10 (by decide) bfX10_100 (v := .int w2) rfl dX10_keep_31 ?_
    exact j_iretR C (r := r) (rtf := fun r => (some (.int r.1))) (wff := fun r => (oX10_keep D h_t h_t_text h_t_told h_t_touches h_t_has h_t_old h_t_beside h_t_slot h_t_row h_t_free h_t_worth h_t_fore h_t_back h_t_got t_length t_at t_stones t_done t_rows t_frees t_fewest r)) E h rfl rfl dX10_keep_34
theorem dX10_back_0 : decode cX10_back 0 = .ok (.aload_n 0, 1) := by decide +kernel
theorem dX10_back_1 : decode cX10_back 1 = .ok (.getfield 100, 3) := by decide +kernel
theorem dX10_back_4 : decode cX10_back 4 = .ok (.ifCond .ne 6, 3) := by decide +kernel
theorem dX10_back_7 : decode cX10_back 7 = .ok (.bipush (-2), 2) := by decide +kernel
theorem dX10_back_9 : decode cX10_back 9 = .ok (.ireturn, 1) := by decide +kernel
theorem dX10_back_10 : decode cX10_back 10 = .ok (.aload_n 0, 1) := by decide +kernel
theorem dX10_back_11 : decode cX10_back 11 = .ok (.aload_n 0, 1) := by decide +kernel
theorem dX10_back_12 : decode cX10_back 12 = .ok (.getfield 100, 3) := by decide +kernel
theorem dX10_back_15 : decode cX10_back 15 = .ok (.iconst 0, 1) := by decide +kernel
theorem dX10_back_16 : decode cX10_back 16 = .ok (.invokevirtual 130, 3) := by decide +kernel
theorem dX10_back_19 : decode cX10_back 19 = .ok (.aload_n 0, 1) := by decide +kernel
theorem dX10_back_20 : decode cX10_back 20 = .ok (.dup, 1) := by decide +kernel
theorem dX10_back_21 : decode cX10_back 21 = .ok (.getfield 100, 3) := by decide +kernel
theorem dX10_back_24 : decode cX10_back 24 = .ok (.iconst 1, 1) := by decide +kernel
theorem dX10_back_25 : decode cX10_back 25 = .ok (.isub, 1) := by decide +kernel
theorem dX10_back_26 : decode cX10_back 26 = .ok (.putfield 100, 3) := by decide +kernel
theorem dX10_back_29 : decode cX10_back 29 = .ok (.aload_n 0, 1) := by decide +kernel
theorem dX10_back_30 : decode cX10_back 30 = .ok (.iconst 0, 1) := by decide +kernel
theorem dX10_back_31 : decode cX10_back 31 = .ok (.putfield 97, 3) := by decide +kernel
theorem dX10_back_34 : decode cX10_back 34 = .ok (.aload_n 0, 1) := by decide +kernel
theorem dX10_back_35 : decode cX10_back 35 = .ok (.getfield 100, 3) := by decide +kernel
theorem dX10_back_38 : decode cX10_back 38 = .ok (.ireturn, 1) := by decide +kernel
def fX10_back (F : Nat) (t_kept : Int32) (t_done : Int32) (t_slot_ : Nat → Int32) : Option (Int32 × Int32 × Int32 × (Nat → Int32)) :=
(if t_kept = 0 then
(some ((-2 : Int32), t_kept, t_done, t_slot_))
else
((fX10_copies F t_slot_ t_kept ((0 : Int32))).bind fun r2 =>
(jl_let (t_kept - ((1 : Int32))) fun w4 =>
(some (w4, w4, (0 : Int32), r2)))))
def oX10_back (D : jv_D) (h_t : Nat) (h_t_text : Nat) (h_t_told : Nat) (h_t_touches : Nat) (h_t_has : Nat) (h_t_old : Nat) (h_t_beside : Nat) (h_t_slot : Nat) (h_t_row : Nat) (h_t_free : Nat) (h_t_worth : Nat) (h_t_fore : Nat) (h_t_back : Nat) (h_t_got : Nat) (t_length : Int32) (t_at : Int32) (t_stones : Int32) (t_rows : Int32) (t_frees : Int32) (t_fewest : Int32) (r : Int32 × Int32 × Int32 × (Nat → Int32)) : va_W := [(h_t, .inr (8, [.int t_length, .ref h_t_text, .int t_at, .ref h_t_told, .ref h_t_touches, .ref h_t_has, .ref h_t_old, .ref h_t_beside, .int t_stones, .ref h_t_slot, .int r.2.1, .int r.2.2.1, .int t_rows, .ref h_t_row, .ref h_t_free, .int t_frees, .ref h_t_worth, .ref h_t_fore, .ref h_t_back, .int t_fewest, .ref h_t_got])), (h_t_slot, jI D 240 r.2.2.2)]
set_option maxHeartbeats 40000000 in
set_option maxRecDepth 100000 in
theorem mX10_back (l : Launch) (D : jv_D) (F : Nat) (h_t : Nat) (h_t_text : Nat) (h_t_told : Nat) (h_t_touches : Nat) (h_t_has : Nat) (h_t_old : Nat) (h_t_beside : Nat) (h_t_slot : Nat) (h_t_row : Nat) (h_t_free : Nat) (h_t_worth : Nat) (h_t_fore : Nat) (h_t_back : Nat) (h_t_got : Nat) (t_length : Int32) (t_at : Int32) (t_stones : Int32) (t_kept : Int32) (t_done : Int32) (t_rows : Int32) (t_frees : Int32) (t_fewest : Int32) (t_slot_ : Nat → Int32) (r : Int32 × Int32 × Int32 × (Nat → Int32)) (h : fX10_back F t_kept t_done t_slot_ = some r) : MM l yX10_back (jW yX10_back cX10_back 1 (some .int)) ({ frames := 1, cells := 0, slots := 0, locals := 23 }) D [.ref h_t] [(h_t, .inr (8, [.int t_length, .ref h_t_text, .int t_at, .ref h_t_told, .ref h_t_touches, .ref h_t_has, .ref h_t_old, .ref h_t_beside, .int t_stones, .ref h_t_slot, .int t_kept, .int t_done, .int t_rows, .ref h_t_row, .ref h_t_free, .int t_frees, .ref h_t_worth, .ref h_t_fore, .ref h_t_back, .int t_fewest, .ref h_t_got])), (h_t_slot, jI D 240 t_slot_)] (some (.int r.1)) (oX10_back D h_t h_t_text h_t_told h_t_touches h_t_has h_t_old h_t_beside h_t_slot h_t_row h_t_free h_t_worth h_t_fore h_t_back h_t_got t_length t_at t_stones t_rows t_frees t_fewest r) := by
  refine mn_of hpX10_back (Nat.le_of_ble_eq_true rfl) ?_
  intro X hXl C E0 hN
  subst hXl
  replace C : JC D X 1 RX10 cX10_back ({ frames := 1, cells := 0, slots := 0, locals := 23 }) := C
  have E : JE D X 0 0 (some .int) (fun _ : Unit => (some (.int r.1))) (fun _ : Unit => (oX10_back D h_t h_t_text h_t_told h_t_touches h_t_has h_t_old h_t_beside h_t_slot h_t_row h_t_free h_t_worth h_t_fore h_t_back h_t_got t_length t_at t_stones t_rows t_frees t_fewest r)) := E0 0 0 rfl rfl
  clear E0 hN
  show JJ D X 1 0 0 0 [(0, .ref h_t)] [] [(h_t, .inr (8, [.int t_length, .ref h_t_text, .int t_at, .ref h_t_told, .ref h_t_touches, .ref h_t_has, .ref h_t_old, .ref h_t_beside, .int t_stones, .ref h_t_slot, .int t_kept, .int t_done, .int t_rows, .ref h_t_row, .ref h_t_free, .int t_frees, .ref h_t_worth, .ref h_t_fore, .ref h_t_back, .int t_fewest, .ref h_t_got])), (h_t_slot, jI D 240 t_slot_)]
  unfold fX10_back at h
  refine j_aload_n C dX10_back_0 rfl 0 rfl ?_
  refine j_get C ibX10 (ci := 8) 0 rfl rfl 10 (by decide) bfX10_100 (v := .int t_kept) rfl dX10_back_1 ?_
  refine j_if_ne C (tgt := 10) dX10_back_4 (by decide) h (fun c1 h => ?_) (fun c1 h => ?_)
  · refine j_bipush C dX10_back_7 (v := (-2 : Int32)) (by decide) ?_
    exact j_iretR C (r := r) (rtf := fun r => (some (.int r.1))) (wff := fun r => (oX10_back D h_t h_t_text h_t_told h_t_touches h_t_has h_t_old h_t_beside h_t_slot h_t_row h_t_free h_t_worth h_t_fore h_t_back h_t_got t_length t_at t_stones t_rows t_frees t_fewest r)) E h rfl rfl dX10_back_9
  · refine j_aload_n C dX10_back_10 rfl 0 rfl ?_
    refine j_aload_n C dX10_back_11 rfl 0 rfl ?_
    refine j_get C ibX10 (ci := 8) 0 rfl rfl 10 (by decide) bfX10_100 (v := .int t_kept) rfl dX10_back_12 ?_
    refine j_iconst C dX10_back_15 (v := (0 : Int32)) (by decide) ?_
    obtain ⟨r2, q3, h⟩ := jl_bind h
    refine j_cV0 C (mX10_copies (jlaunch X) D F h_t h_t_text h_t_told h_t_touches h_t_has h_t_old h_t_beside h_t_slot h_t_row h_t_free h_t_worth h_t_fore h_t_back h_t_got t_length t_at t_stones t_kept t_done t_rows t_frees t_fewest t_slot_ t_kept ((0 : Int32)) r2 q3) bmX10_130 biX10_copies bsX10_copies bzX10 bcX10_copies rfl hX10_copies (rest := []) rfl (jroom_of rfl) 0 (ci := 8) rfl rfl rfl [0, 1] [] [0, 1] (wr := []) (ws2 := [(h_t, .inr (8, [.int t_length, .ref h_t_text, .int t_at, .ref h_t_told, .ref h_t_touches, .ref h_t_has, .ref h_t_old, .ref h_t_beside, .int t_stones, .ref h_t_slot, .int t_kept, .int t_done, .int t_rows, .ref h_t_row, .ref h_t_free, .int t_frees, .ref h_t_worth, .ref h_t_fore, .ref h_t_back, .int t_fewest, .ref h_t_got])), (h_t_slot, jI D 240 r2)]) rfl rfl rfl rfl rfl (Nat.le_of_ble_eq_true rfl) dX10_back_16 ?_
    refine j_aload_n C dX10_back_19 rfl 0 rfl ?_
    refine j_dup C dX10_back_20 rfl ?_
    refine j_get C ibX10 (ci := 8) 0 rfl rfl 10 (by decide) bfX10_100 (v := .int t_kept) rfl dX10_back_21 ?_
    refine j_iconst C dX10_back_24 (v := (1 : Int32)) (by decide) ?_
    refine j_isub C dX10_back_25 ?_
    refine j_nmi h (fun w4 h => ?_)
    refine j_put C ibX10 tyX10 tyX10_ok nmX10 (ci := 8) 0 rfl rfl 10 (by decide) bfX10_100 rfl rfl rfl (Nat.le_of_ble_eq_true rfl) dX10_back_26 (ws' := [(h_t, .inr (8, [.int t_length, .ref h_t_text, .int t_at, .ref h_t_told, .ref h_t_touches, .ref h_t_has, .ref h_t_old, .ref h_t_beside, .int t_stones, .ref h_t_slot, .int w4, .int t_done, .int t_rows, .ref h_t_row, .ref h_t_free, .int t_frees, .ref h_t_worth, .ref h_t_fore, .ref h_t_back, .int t_fewest, .ref h_t_got])), (h_t_slot, jI D 240 r2)]) rfl ?_
    refine j_aload_n C dX10_back_29 rfl 0 rfl ?_
    refine j_iconst C dX10_back_30 (v := (0 : Int32)) (by decide) ?_
    refine j_put C ibX10 tyX10 tyX10_ok nmX10 (ci := 8) 0 rfl rfl 11 (by decide) bfX10_97 rfl rfl rfl (Nat.le_of_ble_eq_true rfl) dX10_back_31 (ws' := [(h_t, .inr (8, [.int t_length, .ref h_t_text, .int t_at, .ref h_t_told, .ref h_t_touches, .ref h_t_has, .ref h_t_old, .ref h_t_beside, .int t_stones, .ref h_t_slot, .int w4, .int ((0 : Int32)), .int t_rows, .ref h_t_row, .ref h_t_free, .int t_frees, .ref h_t_worth, .ref h_t_fore, .ref h_t_back, .int t_fewest, .ref h_t_got])), (h_t_slot, jI D 240 r2)]) rfl ?_
    refine j_aload_n C dX10_back_34 rfl 0 rfl ?_
    refine j_get C ibX10 (ci := 8) 0 rfl rfl 10 (by decide) bfX10_100 (v := .int w4) rfl dX10_back_35 ?_
    exact j_iretR C (r := r) (rtf := fun r => (some (.int r.1))) (wff := fun r => (oX10_back D h_t h_t_text h_t_told h_t_touches h_t_has h_t_old h_t_beside h_t_slot h_t_row h_t_free h_t_worth h_t_fore h_t_back h_t_got t_length t_at t_stones t_rows t_frees t_fewest r)) E h rfl rfl dX10_back_38
theorem dX10_count_0 : decode cX10_count 0 = .ok (.iload_n 1, 1) := by decide +kernel
theorem dX10_count_1 : decode cX10_count 1 = .ok (.tableswitch 105 0 8 #[51, 56, 63, 71, 77, 82, 87, 92, 97], 51) := by decide +kernel
theorem dX10_count_52 : decode cX10_count 52 = .ok (.aload_n 0, 1) := by decide +kernel
theorem dX10_count_53 : decode cX10_count 53 = .ok (.getfield 91, 3) := by decide +kernel
theorem dX10_count_56 : decode cX10_count 56 = .ok (.ireturn, 1) := by decide +kernel
theorem dX10_count_57 : decode cX10_count 57 = .ok (.aload_n 0, 1) := by decide +kernel
theorem dX10_count_58 : decode cX10_count 58 = .ok (.getfield 13, 3) := by decide +kernel
theorem dX10_count_61 : decode cX10_count 61 = .ok (.iconst 2, 1) := by decide +kernel
theorem dX10_count_62 : decode cX10_count 62 = .ok (.iaload, 1) := by decide +kernel
theorem dX10_count_63 : decode cX10_count 63 = .ok (.ireturn, 1) := by decide +kernel
theorem dX10_count_64 : decode cX10_count 64 = .ok (.aload_n 0, 1) := by decide +kernel
theorem dX10_count_65 : decode cX10_count 65 = .ok (.getfield 30, 3) := by decide +kernel
theorem dX10_count_68 : decode cX10_count 68 = .ok (.bipush 19, 2) := by decide +kernel
theorem dX10_count_70 : decode cX10_count 70 = .ok (.iaload, 1) := by decide +kernel
theorem dX10_count_71 : decode cX10_count 71 = .ok (.ireturn, 1) := by decide +kernel
theorem dX10_count_72 : decode cX10_count 72 = .ok (.aload_n 0, 1) := by decide +kernel
theorem dX10_count_73 : decode cX10_count 73 = .ok (.iconst 0, 1) := by decide +kernel
theorem dX10_count_74 : decode cX10_count 74 = .ok (.invokevirtual 141, 3) := by decide +kernel
theorem dX10_count_77 : decode cX10_count 77 = .ok (.ireturn, 1) := by decide +kernel
theorem dX10_count_78 : decode cX10_count 78 = .ok (.aload_n 0, 1) := by decide +kernel
theorem dX10_count_79 : decode cX10_count 79 = .ok (.getfield 94, 3) := by decide +kernel
theorem dX10_count_82 : decode cX10_count 82 = .ok (.ireturn, 1) := by decide +kernel
theorem dX10_count_83 : decode cX10_count 83 = .ok (.aload_n 0, 1) := by decide +kernel
theorem dX10_count_84 : decode cX10_count 84 = .ok (.getfield 97, 3) := by decide +kernel
theorem dX10_count_87 : decode cX10_count 87 = .ok (.ireturn, 1) := by decide +kernel
theorem dX10_count_88 : decode cX10_count 88 = .ok (.aload_n 0, 1) := by decide +kernel
theorem dX10_count_89 : decode cX10_count 89 = .ok (.getfield 100, 3) := by decide +kernel
theorem dX10_count_92 : decode cX10_count 92 = .ok (.ireturn, 1) := by decide +kernel
theorem dX10_count_93 : decode cX10_count 93 = .ok (.aload_n 0, 1) := by decide +kernel
theorem dX10_count_94 : decode cX10_count 94 = .ok (.getfield 64, 3) := by decide +kernel
theorem dX10_count_97 : decode cX10_count 97 = .ok (.ireturn, 1) := by decide +kernel
theorem dX10_count_98 : decode cX10_count 98 = .ok (.aload_n 0, 1) := by decide +kernel
theorem dX10_count_99 : decode cX10_count 99 = .ok (.getfield 30, 3) := by decide +kernel
theorem dX10_count_102 : decode cX10_count 102 = .ok (.bipush 18, 2) := by decide +kernel
theorem dX10_count_104 : decode cX10_count 104 = .ok (.iaload, 1) := by decide +kernel
theorem dX10_count_105 : decode cX10_count 105 = .ok (.ireturn, 1) := by decide +kernel
theorem dX10_count_106 : decode cX10_count 106 = .ok (.iconst (-1), 1) := by decide +kernel
theorem dX10_count_107 : decode cX10_count 107 = .ok (.ireturn, 1) := by decide +kernel
def fX10_count (F : Nat) (t_length : Int32) (t_stones : Int32) (t_kept : Int32) (t_done : Int32) (t_rows : Int32) (t_told_ : Nat → Int32) (t_slot_ : Nat → Int32) (p1 : Int32) : Option (Int32) :=
(if p1 = (0 : Int32) then
(some (t_stones))
else
(if p1 = (1 : Int32) then
(some (t_told_ ((2 : Int32)).toNatClampNeg))
else
(if p1 = (2 : Int32) then
(some (t_slot_ ((19 : Int32)).toNatClampNeg))
else
(if p1 = (3 : Int32) then
((fX10_painted F t_stones t_slot_ ((0 : Int32))).bind fun r5 =>
(some (r5)))
else
(if p1 = (4 : Int32) then
(some (t_rows))
else
(if p1 = (5 : Int32) then
(some (t_done))
else
(if p1 = (6 : Int32) then
(some (t_kept))
else
(if p1 = (7 : Int32) then
(some (t_length))
else
(if p1 = (8 : Int32) then
(some (t_slot_ ((18 : Int32)).toNatClampNeg))
else
(some ((-1 : Int32))))))))))))
def oX10_count (D : jv_D) (h_t : Nat) (h_t_text : Nat) (h_t_told : Nat) (h_t_touches : Nat) (h_t_has : Nat) (h_t_old : Nat) (h_t_beside : Nat) (h_t_slot : Nat) (h_t_row : Nat) (h_t_free : Nat) (h_t_worth : Nat) (h_t_fore : Nat) (h_t_back : Nat) (h_t_got : Nat) (t_length : Int32) (t_at : Int32) (t_stones : Int32) (t_kept : Int32) (t_done : Int32) (t_rows : Int32) (t_frees : Int32) (t_fewest : Int32) (t_told_ : Nat → Int32) (t_slot_ : Nat → Int32) (r : Int32) : va_W := [(h_t, .inr (8, [.int t_length, .ref h_t_text, .int t_at, .ref h_t_told, .ref h_t_touches, .ref h_t_has, .ref h_t_old, .ref h_t_beside, .int t_stones, .ref h_t_slot, .int t_kept, .int t_done, .int t_rows, .ref h_t_row, .ref h_t_free, .int t_frees, .ref h_t_worth, .ref h_t_fore, .ref h_t_back, .int t_fewest, .ref h_t_got])), (h_t_told, jI D 8 t_told_), (h_t_slot, jI D 240 t_slot_)]
set_option maxHeartbeats 40000000 in
set_option maxRecDepth 100000 in
theorem mX10_count (l : Launch) (D : jv_D) (F : Nat) (h_t : Nat) (h_t_text : Nat) (h_t_told : Nat) (h_t_touches : Nat) (h_t_has : Nat) (h_t_old : Nat) (h_t_beside : Nat) (h_t_slot : Nat) (h_t_row : Nat) (h_t_free : Nat) (h_t_worth : Nat) (h_t_fore : Nat) (h_t_back : Nat) (h_t_got : Nat) (t_length : Int32) (t_at : Int32) (t_stones : Int32) (t_kept : Int32) (t_done : Int32) (t_rows : Int32) (t_frees : Int32) (t_fewest : Int32) (t_told_ : Nat → Int32) (t_slot_ : Nat → Int32) (p1 : Int32) (r : Int32) (h : fX10_count F t_length t_stones t_kept t_done t_rows t_told_ t_slot_ p1 = some r) : MM l yX10_count (jW yX10_count cX10_count 2 (some .int)) ({ frames := 2, cells := 0, slots := 0, locals := 48 }) D [.ref h_t, .int p1] [(h_t, .inr (8, [.int t_length, .ref h_t_text, .int t_at, .ref h_t_told, .ref h_t_touches, .ref h_t_has, .ref h_t_old, .ref h_t_beside, .int t_stones, .ref h_t_slot, .int t_kept, .int t_done, .int t_rows, .ref h_t_row, .ref h_t_free, .int t_frees, .ref h_t_worth, .ref h_t_fore, .ref h_t_back, .int t_fewest, .ref h_t_got])), (h_t_told, jI D 8 t_told_), (h_t_slot, jI D 240 t_slot_)] (some (.int r)) (oX10_count D h_t h_t_text h_t_told h_t_touches h_t_has h_t_old h_t_beside h_t_slot h_t_row h_t_free h_t_worth h_t_fore h_t_back h_t_got t_length t_at t_stones t_kept t_done t_rows t_frees t_fewest t_told_ t_slot_ r) := by
  refine mn_of hpX10_count (Nat.le_of_ble_eq_true rfl) ?_
  intro X hXl C E0 hN
  subst hXl
  replace C : JC D X 2 RX10 cX10_count ({ frames := 2, cells := 0, slots := 0, locals := 48 }) := C
  have E : JE D X 0 0 (some .int) (fun _ : Unit => (some (.int r))) (fun _ : Unit => (oX10_count D h_t h_t_text h_t_told h_t_touches h_t_has h_t_old h_t_beside h_t_slot h_t_row h_t_free h_t_worth h_t_fore h_t_back h_t_got t_length t_at t_stones t_kept t_done t_rows t_frees t_fewest t_told_ t_slot_ r)) := E0 0 0 rfl rfl
  clear E0 hN
  show JJ D X 2 0 0 0 [(0, .ref h_t), (1, .int p1)] [] [(h_t, .inr (8, [.int t_length, .ref h_t_text, .int t_at, .ref h_t_told, .ref h_t_touches, .ref h_t_has, .ref h_t_old, .ref h_t_beside, .int t_stones, .ref h_t_slot, .int t_kept, .int t_done, .int t_rows, .ref h_t_row, .ref h_t_free, .int t_frees, .ref h_t_worth, .ref h_t_fore, .ref h_t_back, .int t_fewest, .ref h_t_got])), (h_t_told, jI D 8 t_told_), (h_t_slot, jI D 240 t_slot_)]
  unfold fX10_count at h
  refine j_iload_n C dX10_count_0 rfl 1 rfl ?_
  refine jl_ite h (fun c1 h => ?_) (fun c1 h => ?_)
  · refine j_tableIn C (tgt := 52) dX10_count_1 c1 (z := 0) (by decide) (by decide) (by decide) (off := 51) rfl (by decide) ?_
    refine j_aload_n C dX10_count_52 rfl 0 rfl ?_
    refine j_get C ibX10 (ci := 8) 0 rfl rfl 8 (by decide) bfX10_91 (v := .int t_stones) rfl dX10_count_53 ?_
    exact j_iretR C (r := r) (rtf := fun r => (some (.int r))) (wff := fun r => (oX10_count D h_t h_t_text h_t_told h_t_touches h_t_has h_t_old h_t_beside h_t_slot h_t_row h_t_free h_t_worth h_t_fore h_t_back h_t_got t_length t_at t_stones t_kept t_done t_rows t_frees t_fewest t_told_ t_slot_ r)) E h rfl rfl dX10_count_56
  refine jl_ite h (fun c2 h => ?_) (fun c2 h => ?_)
  · refine j_tableIn C (tgt := 57) dX10_count_1 c2 (z := 1) (by decide) (by decide) (by decide) (off := 56) rfl (by decide) ?_
    refine j_aload_n C dX10_count_57 rfl 0 rfl ?_
    refine j_get C ibX10 (ci := 8) 0 rfl rfl 3 (by decide) bfX10_13 (v := .ref h_t_told) rfl dX10_count_58 ?_
    refine j_iconst C dX10_count_61 (v := (2 : Int32)) (by decide) ?_
    refine j_iald C 1 rfl (by unfold vp_in; decide) dX10_count_62 ?_
    exact j_iretR C (r := r) (rtf := fun r => (some (.int r))) (wff := fun r => (oX10_count D h_t h_t_text h_t_told h_t_touches h_t_has h_t_old h_t_beside h_t_slot h_t_row h_t_free h_t_worth h_t_fore h_t_back h_t_got t_length t_at t_stones t_kept t_done t_rows t_frees t_fewest t_told_ t_slot_ r)) E h rfl rfl dX10_count_63
  refine jl_ite h (fun c3 h => ?_) (fun c3 h => ?_)
  · refine j_tableIn C (tgt := 64) dX10_count_1 c3 (z := 2) (by decide) (by decide) (by decide) (off := 63) rfl (by decide) ?_
    refine j_aload_n C dX10_count_64 rfl 0 rfl ?_
    refine j_get C ibX10 (ci := 8) 0 rfl rfl 9 (by decide) bfX10_30 (v := .ref h_t_slot) rfl dX10_count_65 ?_
    refine j_bipush C dX10_count_68 (v := (19 : Int32)) (by decide) ?_
    refine j_iald C 2 rfl (by unfold vp_in; decide) dX10_count_70 ?_
    exact j_iretR C (r := r) (rtf := fun r => (some (.int r))) (wff := fun r => (oX10_count D h_t h_t_text h_t_told h_t_touches h_t_has h_t_old h_t_beside h_t_slot h_t_row h_t_free h_t_worth h_t_fore h_t_back h_t_got t_length t_at t_stones t_kept t_done t_rows t_frees t_fewest t_told_ t_slot_ r)) E h rfl rfl dX10_count_71
  refine jl_ite h (fun c4 h => ?_) (fun c4 h => ?_)
  · refine j_tableIn C (tgt := 72) dX10_count_1 c4 (z := 3) (by decide) (by decide) (by decide) (off := 71) rfl (by decide) ?_
    refine j_aload_n C dX10_count_72 rfl 0 rfl ?_
    refine j_iconst C dX10_count_73 (v := (0 : Int32)) (by decide) ?_
    obtain ⟨r5, q6, h⟩ := jl_bind h
    refine j_cV1 C (mX10_painted (jlaunch X) D F h_t h_t_text h_t_told h_t_touches h_t_has h_t_old h_t_beside h_t_slot h_t_row h_t_free h_t_worth h_t_fore h_t_back h_t_got t_length t_at t_stones t_kept t_done t_rows t_frees t_fewest t_slot_ ((0 : Int32)) r5 q6) bmX10_141 biX10_painted bsX10_painted bzX10 bcX10_painted rfl hX10_painted (rest := []) rfl (jroom_of rfl) 0 (ci := 8) rfl rfl rfl [0, 2] [1] [1, 0, 2] (wr := [(h_t_told, jI D 8 t_told_)]) (ws2 := [(h_t, .inr (8, [.int t_length, .ref h_t_text, .int t_at, .ref h_t_told, .ref h_t_touches, .ref h_t_has, .ref h_t_old, .ref h_t_beside, .int t_stones, .ref h_t_slot, .int t_kept, .int t_done, .int t_rows, .ref h_t_row, .ref h_t_free, .int t_frees, .ref h_t_worth, .ref h_t_fore, .ref h_t_back, .int t_fewest, .ref h_t_got])), (h_t_told, jI D 8 t_told_), (h_t_slot, jI D 240 t_slot_)]) rfl rfl rfl rfl rfl (Nat.le_of_ble_eq_true rfl) dX10_count_74 ?_
    exact j_iretR C (r := r) (rtf := fun r => (some (.int r))) (wff := fun r => (oX10_count D h_t h_t_text h_t_told h_t_touches h_t_has h_t_old h_t_beside h_t_slot h_t_row h_t_free h_t_worth h_t_fore h_t_back h_t_got t_length t_at t_stones t_kept t_done t_rows t_frees t_fewest t_told_ t_slot_ r)) E h rfl rfl dX10_count_77
  refine jl_ite h (fun c7 h => ?_) (fun c7 h => ?_)
  · refine j_tableIn C (tgt := 78) dX10_count_1 c7 (z := 4) (by decide) (by decide) (by decide) (off := 77) rfl (by decide) ?_
    refine j_aload_n C dX10_count_78 rfl 0 rfl ?_
    refine j_get C ibX10 (ci := 8) 0 rfl rfl 12 (by decide) bfX10_94 (v := .int t_rows) rfl dX10_count_79 ?_
    exact j_iretR C (r := r) (rtf := fun r => (some (.int r))) (wff := fun r => (oX10_count D h_t h_t_text h_t_told h_t_touches h_t_has h_t_old h_t_beside h_t_slot h_t_row h_t_free h_t_worth h_t_fore h_t_back h_t_got t_length t_at t_stones t_kept t_done t_rows t_frees t_fewest t_told_ t_slot_ r)) E h rfl rfl dX10_count_82
  refine jl_ite h (fun c8 h => ?_) (fun c8 h => ?_)
  · refine j_tableIn C (tgt := 83) dX10_count_1 c8 (z := 5) (by decide) (by decide) (by decide) (off := 82) rfl (by decide) ?_
    refine j_aload_n C dX10_count_83 rfl 0 rfl ?_
    refine j_get C ibX10 (ci := 8) 0 rfl rfl 11 (by decide) bfX10_97 (v := .int t_done) rfl dX10_count_84 ?_
    exact j_iretR C (r := r) (rtf := fun r => (some (.int r))) (wff := fun r => (oX10_count D h_t h_t_text h_t_told h_t_touches h_t_has h_t_old h_t_beside h_t_slot h_t_row h_t_free h_t_worth h_t_fore h_t_back h_t_got t_length t_at t_stones t_kept t_done t_rows t_frees t_fewest t_told_ t_slot_ r)) E h rfl rfl dX10_count_87
  refine jl_ite h (fun c9 h => ?_) (fun c9 h => ?_)
  · refine j_tableIn C (tgt := 88) dX10_count_1 c9 (z := 6) (by decide) (by decide) (by decide) (off := 87) rfl (by decide) ?_
    refine j_aload_n C dX10_count_88 rfl 0 rfl ?_
    refine j_get C ibX10 (ci := 8) 0 rfl rfl 10 (by decide) bfX10_100 (v := .int t_kept) rfl dX10_count_89 ?_
    exact j_iretR C (r := r) (rtf := fun r => (some (.int r))) (wff := fun r => (oX10_count D h_t h_t_text h_t_told h_t_touches h_t_has h_t_old h_t_beside h_t_slot h_t_row h_t_free h_t_worth h_t_fore h_t_back h_t_got t_length t_at t_stones t_kept t_done t_rows t_frees t_fewest t_told_ t_slot_ r)) E h rfl rfl dX10_count_92
  refine jl_ite h (fun c10 h => ?_) (fun c10 h => ?_)
  · refine j_tableIn C (tgt := 93) dX10_count_1 c10 (z := 7) (by decide) (by decide) (by decide) (off := 92) rfl (by decide) ?_
    refine j_aload_n C dX10_count_93 rfl 0 rfl ?_
    refine j_get C ibX10 (ci := 8) 0 rfl rfl 0 (by decide) bfX10_64 (v := .int t_length) rfl dX10_count_94 ?_
    exact j_iretR C (r := r) (rtf := fun r => (some (.int r))) (wff := fun r => (oX10_count D h_t h_t_text h_t_told h_t_touches h_t_has h_t_old h_t_beside h_t_slot h_t_row h_t_free h_t_worth h_t_fore h_t_back h_t_got t_length t_at t_stones t_kept t_done t_rows t_frees t_fewest t_told_ t_slot_ r)) E h rfl rfl dX10_count_97
  refine jl_ite h (fun c11 h => ?_) (fun c11 h => ?_)
  · refine j_tableIn C (tgt := 98) dX10_count_1 c11 (z := 8) (by decide) (by decide) (by decide) (off := 97) rfl (by decide) ?_
    refine j_aload_n C dX10_count_98 rfl 0 rfl ?_
    refine j_get C ibX10 (ci := 8) 0 rfl rfl 9 (by decide) bfX10_30 (v := .ref h_t_slot) rfl dX10_count_99 ?_
    refine j_bipush C dX10_count_102 (v := (18 : Int32)) (by decide) ?_
    refine j_iald C 2 rfl (by unfold vp_in; decide) dX10_count_104 ?_
    exact j_iretR C (r := r) (rtf := fun r => (some (.int r))) (wff := fun r => (oX10_count D h_t h_t_text h_t_told h_t_touches h_t_has h_t_old h_t_beside h_t_slot h_t_row h_t_free h_t_worth h_t_fore h_t_back h_t_got t_length t_at t_stones t_kept t_done t_rows t_frees t_fewest t_told_ t_slot_ r)) E h rfl rfl dX10_count_105
  have ec1 := lv_neT (a := 0) c1 (by decide)
  have ec2 := lv_neT (a := 1) c2 (by decide)
  have ec3 := lv_neT (a := 2) c3 (by decide)
  have ec4 := lv_neT (a := 3) c4 (by decide)
  have ec7 := lv_neT (a := 4) c7 (by decide)
  have ec8 := lv_neT (a := 5) c8 (by decide)
  have ec9 := lv_neT (a := 6) c9 (by decide)
  have ec10 := lv_neT (a := 7) c10 (by decide)
  have ec11 := lv_neT (a := 8) c11 (by decide)
  have K0 : JJ D X 2 0 0 106 [(0, .ref h_t), (1, .int p1)] [] [(h_t, .inr (8, [.int t_length, .ref h_t_text, .int t_at, .ref h_t_told, .ref h_t_touches, .ref h_t_has, .ref h_t_old, .ref h_t_beside, .int t_stones, .ref h_t_slot, .int t_kept, .int t_done, .int t_rows, .ref h_t_row, .ref h_t_free, .int t_frees, .ref h_t_worth, .ref h_t_fore, .ref h_t_back, .int t_fewest, .ref h_t_got])), (h_t_told, jI D 8 t_told_), (h_t_slot, jI D 240 t_slot_)] := by
    refine j_iconst C dX10_count_106 (v := (-1 : Int32)) (by decide) ?_
    exact j_iretR C (r := r) (rtf := fun r => (some (.int r))) (wff := fun r => (oX10_count D h_t h_t_text h_t_told h_t_touches h_t_has h_t_old h_t_beside h_t_slot h_t_row h_t_free h_t_worth h_t_fore h_t_back h_t_got t_length t_at t_stones t_kept t_done t_rows t_frees t_fewest t_told_ t_slot_ r)) E h rfl rfl dX10_count_107
  exact j_tableOut C (tgt := 106) dX10_count_1 (by omega) (by decide) K0
