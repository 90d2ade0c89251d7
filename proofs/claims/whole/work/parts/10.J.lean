theorem dJ7_fill_53178_0 : decode cJ7_fill_53178 0 = .ok (.iconst 0, 1) := by decide +kernel
theorem dJ7_fill_53178_1 : decode cJ7_fill_53178 1 = .ok (.istore_n 2, 1) := by decide +kernel
theorem dJ7_fill_53178_2 : decode cJ7_fill_53178 2 = .ok (.aload_n 0, 1) := by decide +kernel
theorem dJ7_fill_53178_3 : decode cJ7_fill_53178 3 = .ok (.arraylength, 1) := by decide +kernel
theorem dJ7_fill_53178_4 : decode cJ7_fill_53178 4 = .ok (.istore_n 3, 1) := by decide +kernel
theorem dJ7_fill_53178_5 : decode cJ7_fill_53178 5 = .ok (.iload_n 2, 1) := by decide +kernel
theorem dJ7_fill_53178_6 : decode cJ7_fill_53178 6 = .ok (.iload_n 3, 1) := by decide +kernel
theorem dJ7_fill_53178_7 : decode cJ7_fill_53178 7 = .ok (.if_icmp .ge 13, 3) := by decide +kernel
theorem dJ7_fill_53178_10 : decode cJ7_fill_53178 10 = .ok (.aload_n 0, 1) := by decide +kernel
theorem dJ7_fill_53178_11 : decode cJ7_fill_53178 11 = .ok (.iload_n 2, 1) := by decide +kernel
theorem dJ7_fill_53178_12 : decode cJ7_fill_53178 12 = .ok (.iload_n 1, 1) := by decide +kernel
theorem dJ7_fill_53178_13 : decode cJ7_fill_53178 13 = .ok (.iastore, 1) := by decide +kernel
theorem dJ7_fill_53178_14 : decode cJ7_fill_53178 14 = .ok (.iinc 2 1, 3) := by decide +kernel
theorem dJ7_fill_53178_17 : decode cJ7_fill_53178 17 = .ok (.goto (-12), 3) := by decide +kernel
theorem dJ7_fill_53178_20 : decode cJ7_fill_53178 20 = .ok (.return_, 1) := by decide +kernel
def bJ7_fill_53178_5 (F : Nat) (n_a0 : Nat) (p1 : Int32)  (k5 : Int32 → Int32 → (Nat → Int32) → Option ((Nat → Int32))) (x2 : Int32) (x3 : Int32) (m_a0__4 : Nat → Int32) : Option ((Nat → Int32)) :=
(if x3 ≤ x2 then
(some (m_a0__4))
else
(if x2 < 0 ∨ n_a0 ≤ x2.toNatClampNeg then none else
(jl_let (upd m_a0__4 x2.toNatClampNeg p1) fun g7 =>
(jl_let (x2 + Int32.ofInt (1)) fun v8 =>
(k5 v8 x3 g7)))))
def lJ7_fill_53178_5 (F : Nat) (n_a0 : Nat) (p1 : Int32)  (F2 : Nat) (x2 : Int32) (x3 : Int32) (m_a0__4 : Nat → Int32) : Option ((Nat → Int32)) := jl_loop3 (bJ7_fill_53178_5 F n_a0 p1 ) F2 x2 x3 m_a0__4
def fJ7_fill_53178 (F : Nat) (n_a0 : Nat) (a0_ : Nat → Int32) (p1 : Int32) : Option ((Nat → Int32)) :=
(jl_let (Int32.ofNat n_a0) fun v1 =>
(lJ7_fill_53178_5 F n_a0 p1 F ((0 : Int32)) v1 a0_))
def oJ7_fill_53178 (D : jv_D) (n_a0 : Nat) (h_a0 : Nat) (r : (Nat → Int32)) : va_W := [(h_a0, jI D n_a0 r)]
set_option maxHeartbeats 40000000 in
set_option maxRecDepth 100000 in
theorem mJ7_fill_53178 (l : Launch) (D : jv_D) (F : Nat) (n_a0 : Nat) (h_a0 : Nat) (a0_ : Nat → Int32) (p1 : Int32) (r : (Nat → Int32)) (h : fJ7_fill_53178 F n_a0 a0_ p1 = some r) : MM l yJ7_fill_53178 (jW yJ7_fill_53178 cJ7_fill_53178 4 none) ({ frames := 0, cells := 0, slots := 0, locals := 0 }) D [.ref h_a0, .int p1] [(h_a0, jI D n_a0 a0_)] none (oJ7_fill_53178 D n_a0 h_a0 r) := by
  refine mn_of hpJ7_fill_53178 (Nat.le_of_ble_eq_true rfl) ?_
  intro X hXl C E0 hN
  subst hXl
  replace C : JC D X 4 RJ7 cJ7_fill_53178 ({ frames := 0, cells := 0, slots := 0, locals := 0 }) := C
  have E : JE D X 0 0 none (fun _ : Unit => none) (fun _ : Unit => (oJ7_fill_53178 D n_a0 h_a0 r)) := E0 0 0 rfl rfl
  clear E0 hN
  show JJ D X 4 0 0 0 [(0, .ref h_a0), (1, .int p1)] [] [(h_a0, jI D n_a0 a0_)]
  unfold fJ7_fill_53178 at h
  have L5 : ∀ (x2 : Int32) (x3 : Int32) (m_a0__4 : Nat → Int32), lJ7_fill_53178_5 F n_a0 p1  F x2 x3 m_a0__4 = some r → JJ D X 4 0 0 5 [(0, .ref h_a0), (1, .int p1), (2, .int x2), (3, .int x3)] [] [(h_a0, jI D n_a0 m_a0__4)] := by
    intro x2 x3 m_a0__4 h
    refine jl_ind3 (fun x2 x3 m_a0__4 => JJ D X 4 0 0 5 [(0, .ref h_a0), (1, .int p1), (2, .int x2), (3, .int x3)] [] [(h_a0, jI D n_a0 m_a0__4)]) ?_ F x2 x3 m_a0__4 h
    clear h x2 x3 m_a0__4
    intro k5 i5 x2 x3 m_a0__4 h
    replace i5 : ∀ (x2 : Int32) (x3 : Int32) (m_a0__4 : Nat → Int32), k5 x2 x3 m_a0__4 = some r → JJ D X 4 0 0 5 [(0, .ref h_a0), (1, .int p1), (2, .int x2), (3, .int x3)] [] [(h_a0, jI D n_a0 m_a0__4)] := i5
    show JJ D X 4 0 0 5 [(0, .ref h_a0), (1, .int p1), (2, .int x2), (3, .int x3)] [] [(h_a0, jI D n_a0 m_a0__4)]
    unfold bJ7_fill_53178_5 at h
    refine j_iload_n C dJ7_fill_53178_5 rfl 2 rfl ?_
    refine j_iload_n C dJ7_fill_53178_6 rfl 3 rfl ?_
    refine j_icmp_ge C (tgt := 20) dJ7_fill_53178_7 (by decide) h (fun c5 h => ?_) (fun c5 h => ?_)
    · exact j_vretR C (r := r) (rtf := fun r => none) (wff := fun r => (oJ7_fill_53178 D n_a0 h_a0 r)) E h rfl rfl dJ7_fill_53178_20
    · refine j_aload_n C dJ7_fill_53178_10 rfl 0 rfl ?_
      refine j_iload_n C dJ7_fill_53178_11 rfl 2 rfl ?_
      refine j_iload_n C dJ7_fill_53178_12 rfl 1 rfl ?_
      refine jl_inb h (fun b6 h => ?_)
      refine j_iast C 0 rfl b6 dJ7_fill_53178_13 (ws' := fun g7 => [(h_a0, jI D n_a0 g7)]) (fun _ => rfl) h (fun g7 h => ?_)
      refine j_iinc C dJ7_fill_53178_14 2 rfl (lv' := fun v8 => [(2, .int v8), (0, .ref h_a0), (1, .int p1), (3, .int x3)]) (by decide) (fun _ => rfl) h (fun v8 h => ?_)
      refine j_goto C dJ7_fill_53178_17 (tgt := 5) (by decide) ?_
      refine j_sub (lv' := [(0, .ref h_a0), (1, .int p1), (2, .int v8), (3, .int x3)]) [1, 2, 0, 3] rfl ?_
      exact i5 v8 x3 g7 h
  refine j_iconst C dJ7_fill_53178_0 (v := (0 : Int32)) (by decide) ?_
  refine j_istore_nC C dJ7_fill_53178_1 rfl (lv' := [(2, .int ((0 : Int32))), (0, .ref h_a0), (1, .int p1)]) (by decide) rfl ?_
  refine j_aload_n C dJ7_fill_53178_2 rfl 1 rfl ?_
  refine j_ilen C 0 rfl (v := Int32.ofNat n_a0) rfl dJ7_fill_53178_3 ?_
  refine j_istore_n C dJ7_fill_53178_4 rfl (lv' := fun v1 => [(3, .int v1), (2, .int ((0 : Int32))), (0, .ref h_a0), (1, .int p1)]) (by decide) (fun _ => rfl) h (fun v1 h => ?_)
  refine j_sub (lv' := [(0, .ref h_a0), (1, .int p1), (2, .int ((0 : Int32))), (3, .int v1)]) [2, 3, 1, 0] rfl ?_
  exact L5 ((0 : Int32)) v1 a0_ h
theorem dJ6_bitCount_0f7a4_0 : decode cJ6_bitCount_0f7a4 0 = .ok (.iload_n 0, 1) := by decide +kernel
theorem dJ6_bitCount_0f7a4_1 : decode cJ6_bitCount_0f7a4 1 = .ok (.iload_n 0, 1) := by decide +kernel
theorem dJ6_bitCount_0f7a4_2 : decode cJ6_bitCount_0f7a4 2 = .ok (.iconst 1, 1) := by decide +kernel
theorem dJ6_bitCount_0f7a4_3 : decode cJ6_bitCount_0f7a4 3 = .ok (.iushr, 1) := by decide +kernel
theorem dJ6_bitCount_0f7a4_4 : decode cJ6_bitCount_0f7a4 4 = .ok (.ldc_w 265, 3) := by decide +kernel
theorem dJ6_bitCount_0f7a4_7 : decode cJ6_bitCount_0f7a4 7 = .ok (.iand, 1) := by decide +kernel
theorem dJ6_bitCount_0f7a4_8 : decode cJ6_bitCount_0f7a4 8 = .ok (.isub, 1) := by decide +kernel
theorem dJ6_bitCount_0f7a4_9 : decode cJ6_bitCount_0f7a4 9 = .ok (.istore_n 0, 1) := by decide +kernel
theorem dJ6_bitCount_0f7a4_10 : decode cJ6_bitCount_0f7a4 10 = .ok (.iload_n 0, 1) := by decide +kernel
theorem dJ6_bitCount_0f7a4_11 : decode cJ6_bitCount_0f7a4 11 = .ok (.ldc_w 266, 3) := by decide +kernel
theorem dJ6_bitCount_0f7a4_14 : decode cJ6_bitCount_0f7a4 14 = .ok (.iand, 1) := by decide +kernel
theorem dJ6_bitCount_0f7a4_15 : decode cJ6_bitCount_0f7a4 15 = .ok (.iload_n 0, 1) := by decide +kernel
theorem dJ6_bitCount_0f7a4_16 : decode cJ6_bitCount_0f7a4 16 = .ok (.iconst 2, 1) := by decide +kernel
theorem dJ6_bitCount_0f7a4_17 : decode cJ6_bitCount_0f7a4 17 = .ok (.iushr, 1) := by decide +kernel
theorem dJ6_bitCount_0f7a4_18 : decode cJ6_bitCount_0f7a4 18 = .ok (.ldc_w 266, 3) := by decide +kernel
theorem dJ6_bitCount_0f7a4_21 : decode cJ6_bitCount_0f7a4 21 = .ok (.iand, 1) := by decide +kernel
theorem dJ6_bitCount_0f7a4_22 : decode cJ6_bitCount_0f7a4 22 = .ok (.iadd, 1) := by decide +kernel
theorem dJ6_bitCount_0f7a4_23 : decode cJ6_bitCount_0f7a4 23 = .ok (.istore_n 0, 1) := by decide +kernel
theorem dJ6_bitCount_0f7a4_24 : decode cJ6_bitCount_0f7a4 24 = .ok (.iload_n 0, 1) := by decide +kernel
theorem dJ6_bitCount_0f7a4_25 : decode cJ6_bitCount_0f7a4 25 = .ok (.iload_n 0, 1) := by decide +kernel
theorem dJ6_bitCount_0f7a4_26 : decode cJ6_bitCount_0f7a4 26 = .ok (.iconst 4, 1) := by decide +kernel
theorem dJ6_bitCount_0f7a4_27 : decode cJ6_bitCount_0f7a4 27 = .ok (.iushr, 1) := by decide +kernel
theorem dJ6_bitCount_0f7a4_28 : decode cJ6_bitCount_0f7a4 28 = .ok (.iadd, 1) := by decide +kernel
theorem dJ6_bitCount_0f7a4_29 : decode cJ6_bitCount_0f7a4 29 = .ok (.ldc_w 267, 3) := by decide +kernel
theorem dJ6_bitCount_0f7a4_32 : decode cJ6_bitCount_0f7a4 32 = .ok (.iand, 1) := by decide +kernel
theorem dJ6_bitCount_0f7a4_33 : decode cJ6_bitCount_0f7a4 33 = .ok (.istore_n 0, 1) := by decide +kernel
theorem dJ6_bitCount_0f7a4_34 : decode cJ6_bitCount_0f7a4 34 = .ok (.iload_n 0, 1) := by decide +kernel
theorem dJ6_bitCount_0f7a4_35 : decode cJ6_bitCount_0f7a4 35 = .ok (.iload_n 0, 1) := by decide +kernel
theorem dJ6_bitCount_0f7a4_36 : decode cJ6_bitCount_0f7a4 36 = .ok (.bipush 8, 2) := by decide +kernel
theorem dJ6_bitCount_0f7a4_38 : decode cJ6_bitCount_0f7a4 38 = .ok (.iushr, 1) := by decide +kernel
theorem dJ6_bitCount_0f7a4_39 : decode cJ6_bitCount_0f7a4 39 = .ok (.iadd, 1) := by decide +kernel
theorem dJ6_bitCount_0f7a4_40 : decode cJ6_bitCount_0f7a4 40 = .ok (.istore_n 0, 1) := by decide +kernel
theorem dJ6_bitCount_0f7a4_41 : decode cJ6_bitCount_0f7a4 41 = .ok (.iload_n 0, 1) := by decide +kernel
theorem dJ6_bitCount_0f7a4_42 : decode cJ6_bitCount_0f7a4 42 = .ok (.iload_n 0, 1) := by decide +kernel
theorem dJ6_bitCount_0f7a4_43 : decode cJ6_bitCount_0f7a4 43 = .ok (.bipush 16, 2) := by decide +kernel
theorem dJ6_bitCount_0f7a4_45 : decode cJ6_bitCount_0f7a4 45 = .ok (.iushr, 1) := by decide +kernel
theorem dJ6_bitCount_0f7a4_46 : decode cJ6_bitCount_0f7a4 46 = .ok (.iadd, 1) := by decide +kernel
theorem dJ6_bitCount_0f7a4_47 : decode cJ6_bitCount_0f7a4 47 = .ok (.istore_n 0, 1) := by decide +kernel
theorem dJ6_bitCount_0f7a4_48 : decode cJ6_bitCount_0f7a4 48 = .ok (.iload_n 0, 1) := by decide +kernel
theorem dJ6_bitCount_0f7a4_49 : decode cJ6_bitCount_0f7a4 49 = .ok (.bipush 63, 2) := by decide +kernel
theorem dJ6_bitCount_0f7a4_51 : decode cJ6_bitCount_0f7a4 51 = .ok (.iand, 1) := by decide +kernel
theorem dJ6_bitCount_0f7a4_52 : decode cJ6_bitCount_0f7a4 52 = .ok (.ireturn, 1) := by decide +kernel
def fJ6_bitCount_0f7a4 (p0 : Int32) : Option (Int32) :=
(jl_let (p0 - (((p0.toUInt32 >>> (((1 : Int32)).toUInt32 &&& Int32.toUInt32 31)).toInt32) &&& ((1431655765 : Int32)))) fun v1 =>
(jl_let ((v1 &&& ((858993459 : Int32))) + (((v1.toUInt32 >>> (((2 : Int32)).toUInt32 &&& Int32.toUInt32 31)).toInt32) &&& ((858993459 : Int32)))) fun v2 =>
(jl_let ((v2 + ((v2.toUInt32 >>> (((4 : Int32)).toUInt32 &&& Int32.toUInt32 31)).toInt32)) &&& ((252645135 : Int32))) fun v3 =>
(jl_let (v3 + ((v3.toUInt32 >>> (((8 : Int32)).toUInt32 &&& Int32.toUInt32 31)).toInt32)) fun v4 =>
(jl_let (v4 + ((v4.toUInt32 >>> (((16 : Int32)).toUInt32 &&& Int32.toUInt32 31)).toInt32)) fun v5 =>
(some (v5 &&& ((63 : Int32)))))))))
def oJ6_bitCount_0f7a4 (D : jv_D)  (r : Int32) : va_W := []
set_option maxHeartbeats 40000000 in
set_option maxRecDepth 100000 in
theorem mJ6_bitCount_0f7a4 (l : Launch) (D : jv_D) (p0 : Int32) (r : Int32) (h : fJ6_bitCount_0f7a4 p0 = some r) : MM l yJ6_bitCount_0f7a4 (jW yJ6_bitCount_0f7a4 cJ6_bitCount_0f7a4 1 (some .int)) ({ frames := 0, cells := 0, slots := 0, locals := 0 }) D [.int p0] [] (some (.int r)) (oJ6_bitCount_0f7a4 D  r) := by
  refine mn_of hpJ6_bitCount_0f7a4 (Nat.le_of_ble_eq_true rfl) ?_
  intro X hXl C E0 hN
  subst hXl
  replace C : JC D X 1 RJ6 cJ6_bitCount_0f7a4 ({ frames := 0, cells := 0, slots := 0, locals := 0 }) := C
  have E : JE D X 0 0 (some .int) (fun _ : Unit => (some (.int r))) (fun _ : Unit => (oJ6_bitCount_0f7a4 D  r)) := E0 0 0 rfl rfl
  clear E0 hN
  show JJ D X 1 0 0 0 [(0, .int p0)] [] []
  unfold fJ6_bitCount_0f7a4 at h
  refine j_iload_n C dJ6_bitCount_0f7a4_0 rfl 0 rfl ?_
  refine j_iload_n C dJ6_bitCount_0f7a4_1 rfl 0 rfl ?_
  refine j_iconst C dJ6_bitCount_0f7a4_2 (v := (1 : Int32)) (by decide) ?_
  refine j_iushr C dJ6_bitCount_0f7a4_3 ?_
  refine j_ldc_w C bkJ6_265 dJ6_bitCount_0f7a4_4 ?_
  refine j_iand C dJ6_bitCount_0f7a4_7 ?_
  refine j_isub C dJ6_bitCount_0f7a4_8 ?_
  refine j_istore_n C dJ6_bitCount_0f7a4_9 rfl (lv' := fun v1 => [(0, .int v1)]) (by decide) (fun _ => rfl) h (fun v1 h => ?_)
  refine j_iload_n C dJ6_bitCount_0f7a4_10 rfl 0 rfl ?_
  refine j_ldc_w C bkJ6_266 dJ6_bitCount_0f7a4_11 ?_
  refine j_iand C dJ6_bitCount_0f7a4_14 ?_
  refine j_iload_n C dJ6_bitCount_0f7a4_15 rfl 0 rfl ?_
  refine j_iconst C dJ6_bitCount_0f7a4_16 (v := (2 : Int32)) (by decide) ?_
  refine j_iushr C dJ6_bitCount_0f7a4_17 ?_
  refine j_ldc_w C bkJ6_266 dJ6_bitCount_0f7a4_18 ?_
  refine j_iand C dJ6_bitCount_0f7a4_21 ?_
  refine j_iadd C dJ6_bitCount_0f7a4_22 ?_
  refine j_istore_n C dJ6_bitCount_0f7a4_23 rfl (lv' := fun v2 => [(0, .int v2)]) (by decide) (fun _ => rfl) h (fun v2 h => ?_)
  refine j_iload_n C dJ6_bitCount_0f7a4_24 rfl 0 rfl ?_
  refine j_iload_n C dJ6_bitCount_0f7a4_25 rfl 0 rfl ?_
  refine j_iconst C dJ6_bitCount_0f7a4_26 (v := (4 : Int32)) (by decide) ?_
  refine j_iushr C dJ6_bitCount_0f7a4_27 ?_
  refine j_iadd C dJ6_bitCount_0f7a4_28 ?_
  refine j_ldc_w C bkJ6_267 dJ6_bitCount_0f7a4_29 ?_
  refine j_iand C dJ6_bitCount_0f7a4_32 ?_
  refine j_istore_n C dJ6_bitCount_0f7a4_33 rfl (lv' := fun v3 => [(0, .int v3)]) (by decide) (fun _ => rfl) h (fun v3 h => ?_)
  refine j_iload_n C dJ6_bitCount_0f7a4_34 rfl 0 rfl ?_
  refine j_iload_n C dJ6_bitCount_0f7a4_35 rfl 0 rfl ?_
  refine j_bipush C dJ6_bitCount_0f7a4_36 (v := (8 : Int32)) (by decide) ?_
  refine j_iushr C dJ6_bitCount_0f7a4_38 ?_
  refine j_iadd C dJ6_bitCount_0f7a4_39 ?_
  refine j_istore_n C dJ6_bitCount_0f7a4_40 rfl (lv' := fun v4 => [(0, .int v4)]) (by decide) (fun _ => rfl) h (fun v4 h => ?_)
  refine j_iload_n C dJ6_bitCount_0f7a4_41 rfl 0 rfl ?_
  refine j_iload_n C dJ6_bitCount_0f7a4_42 rfl 0 rfl ?_
  refine j_bipush C dJ6_bitCount_0f7a4_43 (v := (16 : Int32)) (by decide) ?_
  refine j_iushr C dJ6_bitCount_0f7a4_45 ?_
  refine j_iadd C dJ6_bitCount_0f7a4_46 ?_
  refine j_istore_n C dJ6_bitCount_0f7a4_47 rfl (lv' := fun v5 => [(0, .int v5)]) (by decide) (fun _ => rfl) h (fun v5 h => ?_)
  refine j_iload_n C dJ6_bitCount_0f7a4_48 rfl 0 rfl ?_
  refine j_bipush C dJ6_bitCount_0f7a4_49 (v := (63 : Int32)) (by decide) ?_
  refine j_iand C dJ6_bitCount_0f7a4_51 ?_
  exact j_iretR C (r := r) (rtf := fun r => (some (.int r))) (wff := fun r => (oJ6_bitCount_0f7a4 D  r)) E h rfl rfl dJ6_bitCount_0f7a4_52
