theorem dX6_at_0 : decode cX6_at 0 = .ok (.iload_n 1, 1) := by decide +kernel
theorem dX6_at_1 : decode cX6_at 1 = .ok (.ifCond .lt 33, 3) := by decide +kernel
theorem dX6_at_4 : decode cX6_at 4 = .ok (.iload_n 1, 1) := by decide +kernel
theorem dX6_at_5 : decode cX6_at 5 = .ok (.aload_n 0, 1) := by decide +kernel
theorem dX6_at_6 : decode cX6_at 6 = .ok (.getfield 15, 3) := by decide +kernel
theorem dX6_at_9 : decode cX6_at 9 = .ok (.if_icmp .ge 25, 3) := by decide +kernel
theorem dX6_at_12 : decode cX6_at 12 = .ok (.iload_n 1, 1) := by decide +kernel
theorem dX6_at_13 : decode cX6_at 13 = .ok (.aload_n 0, 1) := by decide +kernel
theorem dX6_at_14 : decode cX6_at 14 = .ok (.getfield 11, 3) := by decide +kernel
theorem dX6_at_17 : decode cX6_at 17 = .ok (.arraylength, 1) := by decide +kernel
theorem dX6_at_18 : decode cX6_at 18 = .ok (.if_icmp .ge 16, 3) := by decide +kernel
theorem dX6_at_21 : decode cX6_at 21 = .ok (.aload_n 0, 1) := by decide +kernel
theorem dX6_at_22 : decode cX6_at 22 = .ok (.getfield 11, 3) := by decide +kernel
theorem dX6_at_25 : decode cX6_at 25 = .ok (.iload_n 1, 1) := by decide +kernel
theorem dX6_at_26 : decode cX6_at 26 = .ok (.baload, 1) := by decide +kernel
theorem dX6_at_27 : decode cX6_at 27 = .ok (.sipush 255, 3) := by decide +kernel
theorem dX6_at_30 : decode cX6_at 30 = .ok (.iand, 1) := by decide +kernel
theorem dX6_at_31 : decode cX6_at 31 = .ok (.goto 4, 3) := by decide +kernel
theorem dX6_at_34 : decode cX6_at 34 = .ok (.iconst (-1), 1) := by decide +kernel
theorem dX6_at_35 : decode cX6_at 35 = .ok (.ireturn, 1) := by decide +kernel
def fX6_at (t_length : Int32) (t_bytes_ : Nat → Int32) (p1 : Int32) : Option (Int32) :=
(if p1 < 0 then
(some ((-1 : Int32)))
else
(if t_length ≤ p1 then
(some ((-1 : Int32)))
else
(if ((200 : Int32)) ≤ p1 then
(some ((-1 : Int32)))
else
(if p1 < 0 ∨ 200 ≤ p1.toNatClampNeg then none else
(some ((t_bytes_ p1.toNatClampNeg) &&& ((255 : Int32))))))))
def oX6_at (D : jv_D) (h_t : Nat) (h_t_bytes : Nat) (t_length : Int32) (t_bytes_ : Nat → Int32) (r : Int32) : va_W := [(h_t, .inr (5, [.ref h_t_bytes, .int t_length])), (h_t_bytes, jB D 200 t_bytes_)]
set_option maxHeartbeats 40000000 in
set_option maxRecDepth 100000 in
theorem mX6_at (l : Launch) (D : jv_D) (h_t : Nat) (h_t_bytes : Nat) (t_length : Int32) (t_bytes_ : Nat → Int32) (p1 : Int32) (r : Int32) (h : fX6_at t_length t_bytes_ p1 = some r) : MM l yX6_at (jW yX6_at cX6_at 2 (some .int)) ({ frames := 0, cells := 0, slots := 0, locals := 0 }) D [.ref h_t, .int p1] [(h_t, .inr (5, [.ref h_t_bytes, .int t_length])), (h_t_bytes, jB D 200 t_bytes_)] (some (.int r)) (oX6_at D h_t h_t_bytes t_length t_bytes_ r) := by
  refine mn_of hpX6_at (Nat.le_of_ble_eq_true rfl) ?_
  intro X hXl C E0 hN
  subst hXl
  replace C : JC D X 2 RX6 cX6_at ({ frames := 0, cells := 0, slots := 0, locals := 0 }) := C
  have E : JE D X 0 0 (some .int) (fun _ : Unit => (some (.int r))) (fun _ : Unit => (oX6_at D h_t h_t_bytes t_length t_bytes_ r)) := E0 0 0 rfl rfl
  clear E0 hN
  show JJ D X 2 0 0 0 [(0, .ref h_t), (1, .int p1)] [] [(h_t, .inr (5, [.ref h_t_bytes, .int t_length])), (h_t_bytes, jB D 200 t_bytes_)]
  unfold fX6_at at h
  refine j_iload_n C dX6_at_0 rfl 1 rfl ?_
  refine j_if_lt C (tgt := 34) dX6_at_1 (by decide) h (fun c1 h => ?_) (fun c1 h => ?_)
  · refine j_iconst C dX6_at_34 (v := (-1 : Int32)) (by decide) ?_
    exact j_iretR C (r := r) (rtf := fun r => (some (.int r))) (wff := fun r => (oX6_at D h_t h_t_bytes t_length t_bytes_ r)) E h rfl rfl dX6_at_35
  · refine j_iload_n C dX6_at_4 rfl 1 rfl ?_
    refine j_aload_n C dX6_at_5 rfl 0 rfl ?_
    refine j_get C ibX6 (ci := 5) 0 rfl rfl 1 (by decide) bfX6_15 (v := .int t_length) rfl dX6_at_6 ?_
    refine j_icmp_ge C (tgt := 34) dX6_at_9 (by decide) h (fun c2 h => ?_) (fun c2 h => ?_)
    · refine j_iconst C dX6_at_34 (v := (-1 : Int32)) (by decide) ?_
      exact j_iretR C (r := r) (rtf := fun r => (some (.int r))) (wff := fun r => (oX6_at D h_t h_t_bytes t_length t_bytes_ r)) E h rfl rfl dX6_at_35
    · refine j_iload_n C dX6_at_12 rfl 1 rfl ?_
      refine j_aload_n C dX6_at_13 rfl 0 rfl ?_
      refine j_get C ibX6 (ci := 5) 0 rfl rfl 0 (by decide) bfX6_11 (v := .ref h_t_bytes) rfl dX6_at_14 ?_
      refine j_blen C 1 rfl (v := (200 : Int32)) (by decide) dX6_at_17 ?_
      refine j_icmp_ge C (tgt := 34) dX6_at_18 (by decide) h (fun c3 h => ?_) (fun c3 h => ?_)
      · refine j_iconst C dX6_at_34 (v := (-1 : Int32)) (by decide) ?_
        exact j_iretR C (r := r) (rtf := fun r => (some (.int r))) (wff := fun r => (oX6_at D h_t h_t_bytes t_length t_bytes_ r)) E h rfl rfl dX6_at_35
      · refine j_aload_n C dX6_at_21 rfl 0 rfl ?_
        refine j_get C ibX6 (ci := 5) 0 rfl rfl 0 (by decide) bfX6_11 (v := .ref h_t_bytes) rfl dX6_at_22 ?_
        refine j_iload_n C dX6_at_25 rfl 1 rfl ?_
        refine jl_inb h (fun b4 h => ?_)
        refine j_bald C 1 rfl b4 dX6_at_26 ?_
        refine j_sipush C dX6_at_27 (v := (255 : Int32)) (by decide) ?_
        refine j_iand C dX6_at_30 ?_
        refine j_goto C dX6_at_31 (tgt := 35) (by decide) ?_
        exact j_iretR C (r := r) (rtf := fun r => (some (.int r))) (wff := fun r => (oX6_at D h_t h_t_bytes t_length t_bytes_ r)) E h rfl rfl dX6_at_35
theorem dX9_isPainter_0 : decode cX9_isPainter 0 = .ok (.iload_n 0, 1) := by decide +kernel
theorem dX9_isPainter_1 : decode cX9_isPainter 1 = .ok (.ifCond .eq 8, 3) := by decide +kernel
theorem dX9_isPainter_4 : decode cX9_isPainter 4 = .ok (.iload_n 0, 1) := by decide +kernel
theorem dX9_isPainter_5 : decode cX9_isPainter 5 = .ok (.iconst 1, 1) := by decide +kernel
theorem dX9_isPainter_6 : decode cX9_isPainter 6 = .ok (.if_icmp .ne 7, 3) := by decide +kernel
theorem dX9_isPainter_9 : decode cX9_isPainter 9 = .ok (.iconst 1, 1) := by decide +kernel
theorem dX9_isPainter_10 : decode cX9_isPainter 10 = .ok (.goto 4, 3) := by decide +kernel
theorem dX9_isPainter_13 : decode cX9_isPainter 13 = .ok (.iconst 0, 1) := by decide +kernel
theorem dX9_isPainter_14 : decode cX9_isPainter 14 = .ok (.ireturn, 1) := by decide +kernel
def fX9_isPainter (p0 : Int32) : Option (Int32) :=
(if p0 = 0 then
(some ((1 : Int32)))
else
(if p0 = ((1 : Int32)) then
(some ((1 : Int32)))
else
(some ((0 : Int32)))))
def oX9_isPainter (D : jv_D)  (r : Int32) : va_W := []
set_option maxHeartbeats 40000000 in
set_option maxRecDepth 100000 in
theorem mX9_isPainter (l : Launch) (D : jv_D) (p0 : Int32) (r : Int32) (h : fX9_isPainter p0 = some r) : MM l yX9_isPainter (jW yX9_isPainter cX9_isPainter 1 (some .boolean)) ({ frames := 0, cells := 0, slots := 0, locals := 0 }) D [.int p0] [] (some (.int r)) (oX9_isPainter D  r) := by
  refine mn_of hpX9_isPainter (Nat.le_of_ble_eq_true rfl) ?_
  intro X hXl C E0 hN
  subst hXl
  replace C : JC D X 1 RX9 cX9_isPainter ({ frames := 0, cells := 0, slots := 0, locals := 0 }) := C
  have E : JE D X 0 0 (some .boolean) (fun _ : Unit => (some (.int r))) (fun _ : Unit => (oX9_isPainter D  r)) := E0 0 0 rfl rfl
  clear E0 hN
  show JJ D X 1 0 0 0 [(0, .int p0)] [] []
  unfold fX9_isPainter at h
  refine j_iload_n C dX9_isPainter_0 rfl 0 rfl ?_
  refine j_if_eq C (tgt := 9) dX9_isPainter_1 (by decide) h (fun c1 h => ?_) (fun c1 h => ?_)
  · refine j_iconst C dX9_isPainter_9 (v := (1 : Int32)) (by decide) ?_
    refine j_goto C dX9_isPainter_10 (tgt := 14) (by decide) ?_
    exact j_zretR C (r := r) (rtf := fun r => (some (.int r))) (wff := fun r => (oX9_isPainter D  r)) E rfl h rfl rfl dX9_isPainter_14
  · refine j_iload_n C dX9_isPainter_4 rfl 0 rfl ?_
    refine j_iconst C dX9_isPainter_5 (v := (1 : Int32)) (by decide) ?_
    refine j_icmp_ne C (tgt := 13) dX9_isPainter_6 (by decide) h (fun c2 h => ?_) (fun c2 h => ?_)
    · refine j_iconst C dX9_isPainter_9 (v := (1 : Int32)) (by decide) ?_
      refine j_goto C dX9_isPainter_10 (tgt := 14) (by decide) ?_
      exact j_zretR C (r := r) (rtf := fun r => (some (.int r))) (wff := fun r => (oX9_isPainter D  r)) E rfl h rfl rfl dX9_isPainter_14
    · refine j_iconst C dX9_isPainter_13 (v := (0 : Int32)) (by decide) ?_
      exact j_zretR C (r := r) (rtf := fun r => (some (.int r))) (wff := fun r => (oX9_isPainter D  r)) E rfl h rfl rfl dX9_isPainter_14
theorem dX6_init_0 : decode cX6_init 0 = .ok (.aload_n 0, 1) := by decide +kernel
theorem dX6_init_1 : decode cX6_init 1 = .ok (.invokespecial 3, 3) := by decide +kernel
theorem dX6_init_4 : decode cX6_init 4 = .ok (.aload_n 0, 1) := by decide +kernel
theorem dX6_init_5 : decode cX6_init 5 = .ok (.sipush 200, 3) := by decide +kernel
theorem dX6_init_8 : decode cX6_init 8 = .ok (.newarray .byte, 2) := by decide +kernel
theorem dX6_init_10 : decode cX6_init 10 = .ok (.putfield 11, 3) := by decide +kernel
theorem dX6_init_13 : decode cX6_init 13 = .ok (.return_, 1) := by decide +kernel
def fX6_init  : Option (Int32 × (Nat → Int32)) :=
(some ((0 : Int32), (fun _ => (0 : Int32))))
set_option maxHeartbeats 40000000 in
set_option maxRecDepth 100000 in
theorem mX6_init (l : Launch) (D : jv_D) (h_t : Nat) (r : Int32 × (Nat → Int32)) (h : fX6_init  = some r) : MN l yX6_init (jW yX6_init cX6_init 1 none) ({ frames := 1, cells := 1, slots := 200, locals := 64 }) D [.ref h_t] [(h_t, .inr (5, [.null, .int ((0 : Int32))]))] 1 200 (fun _ : Nat => none) (fun u : Nat => [(h_t, .inr (5, [.ref u, .int r.1])), (u, jB D 200 r.2)]) := by
  refine mn_of hpX6_init (Nat.le_of_ble_eq_true rfl) ?_
  intro X hXl C E hN
  subst hXl
  replace C : JC D X 1 RX6 cX6_init ({ frames := 1, cells := 1, slots := 200, locals := 64 }) := C
  show JJ D X 1 0 0 0 [(0, .ref h_t)] [] [(h_t, .inr (5, [.null, .int ((0 : Int32))]))]
  unfold fX6_init at h
  refine j_aload_n C dX6_init_0 rfl 0 rfl ?_
  refine j_objInit C bmX6_3 boi boc dX6_init_1 ⟨Nat.le_of_ble_eq_true rfl, Nat.le_of_ble_eq_true rfl⟩ ?_
  refine j_aload_n C dX6_init_4 rfl 0 rfl ?_
  refine j_sipush C dX6_init_5 (v := (200 : Int32)) (by decide) ?_
  refine j_newa C (atype := .byte) 2 (ty := .byte) rfl (fun _ _ h => h) baa_byte rfl (N := 200) (a0 := (200, .inl (fun _ => (0 : Int32)))) (fun _ => rfl) (by decide) (by decide +kernel) (Nat.le_of_ble_eq_true rfl) ⟨Nat.le_of_ble_eq_true rfl, Nat.le_of_ble_eq_true rfl⟩ dX6_init_8 (fun h1 => ?_)
  show JJ D X 1 (0 + 1) (0 + 200) 10 [(0, .ref h_t)] [.ref h1, .ref h_t] [(h_t, .inr (5, [.null, .int ((0 : Int32))])), (h1, jB D 200 ((fun _ => (0 : Int32))))]
  refine j_putF C ibX6 tyX6 tyX6_ok nmX6 (hN rfl) (ci := 5) 0 rfl rfl 0 (by decide) bfX6_11 rfl rfl rfl rfl (Nat.le_of_ble_eq_true rfl) dX6_init_10 (ws' := [(h_t, .inr (5, [.ref h1, .int ((0 : Int32))])), (h1, jB D 200 ((fun _ => (0 : Int32))))]) rfl ?_
  obtain rfl := jl_some h
  exact j_vret C (E _ _ rfl rfl) (h1) rfl rfl dX6_init_13
theorem dX6_add_0 : decode cX6_add 0 = .ok (.iload_n 1, 1) := by decide +kernel
theorem dX6_add_1 : decode cX6_add 1 = .ok (.sipush 200, 3) := by decide +kernel
theorem dX6_add_4 : decode cX6_add 4 = .ok (.aload_n 0, 1) := by decide +kernel
theorem dX6_add_5 : decode cX6_add 5 = .ok (.getfield 15, 3) := by decide +kernel
theorem dX6_add_8 : decode cX6_add 8 = .ok (.isub, 1) := by decide +kernel
theorem dX6_add_9 : decode cX6_add 9 = .ok (.if_icmp .le 6, 3) := by decide +kernel
theorem dX6_add_12 : decode cX6_add 12 = .ok (.bipush (-3), 2) := by decide +kernel
theorem dX6_add_14 : decode cX6_add 14 = .ok (.ireturn, 1) := by decide +kernel
theorem dX6_add_15 : decode cX6_add 15 = .ok (.iload_n 1, 1) := by decide +kernel
theorem dX6_add_16 : decode cX6_add 16 = .ok (.iconst 1, 1) := by decide +kernel
theorem dX6_add_17 : decode cX6_add 17 = .ok (.isub, 1) := by decide +kernel
theorem dX6_add_18 : decode cX6_add 18 = .ok (.istore 4, 2) := by decide +kernel
theorem dX6_add_20 : decode cX6_add 20 = .ok (.iload 4, 2) := by decide +kernel
theorem dX6_add_22 : decode cX6_add 22 = .ok (.ifCond .lt 49, 3) := by decide +kernel
theorem dX6_add_25 : decode cX6_add 25 = .ok (.aload_n 0, 1) := by decide +kernel
theorem dX6_add_26 : decode cX6_add 26 = .ok (.getfield 15, 3) := by decide +kernel
theorem dX6_add_29 : decode cX6_add 29 = .ok (.aload_n 0, 1) := by decide +kernel
theorem dX6_add_30 : decode cX6_add 30 = .ok (.getfield 11, 3) := by decide +kernel
theorem dX6_add_33 : decode cX6_add 33 = .ok (.arraylength, 1) := by decide +kernel
theorem dX6_add_34 : decode cX6_add 34 = .ok (.if_icmp .ge 37, 3) := by decide +kernel
theorem dX6_add_37 : decode cX6_add 37 = .ok (.aload_n 0, 1) := by decide +kernel
theorem dX6_add_38 : decode cX6_add 38 = .ok (.getfield 11, 3) := by decide +kernel
theorem dX6_add_41 : decode cX6_add 41 = .ok (.aload_n 0, 1) := by decide +kernel
theorem dX6_add_42 : decode cX6_add 42 = .ok (.getfield 15, 3) := by decide +kernel
theorem dX6_add_45 : decode cX6_add 45 = .ok (.lload_n 2, 1) := by decide +kernel
theorem dX6_add_46 : decode cX6_add 46 = .ok (.bipush 8, 2) := by decide +kernel
theorem dX6_add_48 : decode cX6_add 48 = .ok (.iload 4, 2) := by decide +kernel
theorem dX6_add_50 : decode cX6_add 50 = .ok (.imul, 1) := by decide +kernel
theorem dX6_add_51 : decode cX6_add 51 = .ok (.lushr, 1) := by decide +kernel
theorem dX6_add_52 : decode cX6_add 52 = .ok (.l2i, 1) := by decide +kernel
theorem dX6_add_53 : decode cX6_add 53 = .ok (.i2b, 1) := by decide +kernel
theorem dX6_add_54 : decode cX6_add 54 = .ok (.bastore, 1) := by decide +kernel
theorem dX6_add_55 : decode cX6_add 55 = .ok (.aload_n 0, 1) := by decide +kernel
theorem dX6_add_56 : decode cX6_add 56 = .ok (.dup, 1) := by decide +kernel
theorem dX6_add_57 : decode cX6_add 57 = .ok (.getfield 15, 3) := by decide +kernel
theorem dX6_add_60 : decode cX6_add 60 = .ok (.iconst 1, 1) := by decide +kernel
theorem dX6_add_61 : decode cX6_add 61 = .ok (.iadd, 1) := by decide +kernel
theorem dX6_add_62 : decode cX6_add 62 = .ok (.putfield 15, 3) := by decide +kernel
theorem dX6_add_65 : decode cX6_add 65 = .ok (.iinc 4 (-1), 3) := by decide +kernel
theorem dX6_add_68 : decode cX6_add 68 = .ok (.goto (-48), 3) := by decide +kernel
theorem dX6_add_71 : decode cX6_add 71 = .ok (.aload_n 0, 1) := by decide +kernel
theorem dX6_add_72 : decode cX6_add 72 = .ok (.getfield 15, 3) := by decide +kernel
theorem dX6_add_75 : decode cX6_add 75 = .ok (.ireturn, 1) := by decide +kernel
def fX6_add_71 (F : Nat) (p1 : Int32) (p2 : Int64)  (m_t_length_7 : Int32) (m_t_bytes__8 : Nat → Int32) : Option (Int32 × Int32 × (Nat → Int32)) :=
(some (m_t_length_7, m_t_length_7, m_t_bytes__8))
def bX6_add_20 (F : Nat) (p1 : Int32) (p2 : Int64)  (k20 : Int32 → Int32 → (Nat → Int32) → Option (Int32 × Int32 × (Nat → Int32))) (x3 : Int32) (m_t_length_4 : Int32) (m_t_bytes__5 : Nat → Int32) : Option (Int32 × Int32 × (Nat → Int32)) :=
(if x3 < 0 then
(fX6_add_71 F p1 p2 m_t_length_4 m_t_bytes__5)
else
(if ((200 : Int32)) ≤ m_t_length_4 then
(fX6_add_71 F p1 p2 m_t_length_4 m_t_bytes__5)
else
(if m_t_length_4 < 0 ∨ 200 ≤ m_t_length_4.toNatClampNeg then none else
(jl_let (upd m_t_bytes__5 m_t_length_4.toNatClampNeg (vp_nar .byte ((((p2.toUInt64 >>> ((((8 : Int32)) * x3).toInt64.toUInt64 &&& Int64.toUInt64 63)).toInt64).toInt32).toInt8.toInt32))) fun g11 =>
(jl_let (m_t_length_4 + ((1 : Int32))) fun w12 =>
(jl_let (x3 + Int32.ofInt (-1)) fun v13 =>
(k20 v13 w12 g11)))))))
def lX6_add_20 (F : Nat) (p1 : Int32) (p2 : Int64)  (F2 : Nat) (x3 : Int32) (m_t_length_4 : Int32) (m_t_bytes__5 : Nat → Int32) : Option (Int32 × Int32 × (Nat → Int32)) := jl_loop3 (bX6_add_20 F p1 p2 ) F2 x3 m_t_length_4 m_t_bytes__5
def fX6_add (F : Nat) (t_length : Int32) (t_bytes_ : Nat → Int32) (p1 : Int32) (p2 : Int64) : Option (Int32 × Int32 × (Nat → Int32)) :=
(if p1 ≤ (((200 : Int32)) - t_length) then
(jl_let (p1 - ((1 : Int32))) fun v2 =>
(lX6_add_20 F p1 p2 F v2 t_length t_bytes_))
else
(some ((-3 : Int32), t_length, t_bytes_)))
def oX6_add (D : jv_D) (h_t : Nat) (h_t_bytes : Nat) (r : Int32 × Int32 × (Nat → Int32)) : va_W := [(h_t, .inr (5, [.ref h_t_bytes, .int r.2.1])), (h_t_bytes, jB D 200 r.2.2)]
set_option maxHeartbeats 40000000 in
set_option maxRecDepth 100000 in
theorem mX6_add (l : Launch) (D : jv_D) (F : Nat) (h_t : Nat) (h_t_bytes : Nat) (t_length : Int32) (t_bytes_ : Nat → Int32) (p1 : Int32) (p2 : Int64) (r : Int32 × Int32 × (Nat → Int32)) (h : fX6_add F t_length t_bytes_ p1 p2 = some r) : MM l yX6_add (jW yX6_add cX6_add 5 (some .int)) ({ frames := 0, cells := 0, slots := 0, locals := 0 }) D [.ref h_t, .int p1, .long p2] [(h_t, .inr (5, [.ref h_t_bytes, .int t_length])), (h_t_bytes, jB D 200 t_bytes_)] (some (.int r.1)) (oX6_add D h_t h_t_bytes r) := by
  refine mn_of hpX6_add (Nat.le_of_ble_eq_true rfl) ?_
  intro X hXl C E0 hN
  subst hXl
  replace C : JC D X 5 RX6 cX6_add ({ frames := 0, cells := 0, slots := 0, locals := 0 }) := C
  have E : JE D X 0 0 (some .int) (fun _ : Unit => (some (.int r.1))) (fun _ : Unit => (oX6_add D h_t h_t_bytes r)) := E0 0 0 rfl rfl
  clear E0 hN
  show JJ D X 5 0 0 0 [(0, .ref h_t), (1, .int p1), (2, .long p2)] [] [(h_t, .inr (5, [.ref h_t_bytes, .int t_length])), (h_t_bytes, jB D 200 t_bytes_)]
  unfold fX6_add at h
  have L71 : ∀ (m_t_length_7 : Int32) (m_t_bytes__8 : Nat → Int32), fX6_add_71 F p1 p2  m_t_length_7 m_t_bytes__8 = some r → JJ D X 5 0 0 71 [(0, .ref h_t)] [] [(h_t, .inr (5, [.ref h_t_bytes, .int m_t_length_7])), (h_t_bytes, jB D 200 m_t_bytes__8)] := by
    intro m_t_length_7 m_t_bytes__8 h
    unfold fX6_add_71 at h
    refine j_aload_n C dX6_add_71 rfl 0 rfl ?_
    refine j_get C ibX6 (ci := 5) 0 rfl rfl 1 (by decide) bfX6_15 (v := .int m_t_length_7) rfl dX6_add_72 ?_
    exact j_iretR C (r := r) (rtf := fun r => (some (.int r.1))) (wff := fun r => (oX6_add D h_t h_t_bytes r)) E h rfl rfl dX6_add_75
  have L20 : ∀ (x3 : Int32) (m_t_length_4 : Int32) (m_t_bytes__5 : Nat → Int32), lX6_add_20 F p1 p2  F x3 m_t_length_4 m_t_bytes__5 = some r → JJ D X 5 0 0 20 [(0, .ref h_t), (2, .long p2), (4, .int x3)] [] [(h_t, .inr (5, [.ref h_t_bytes, .int m_t_length_4])), (h_t_bytes, jB D 200 m_t_bytes__5)] := by
    intro x3 m_t_length_4 m_t_bytes__5 h
    refine jl_ind3 (fun x3 m_t_length_4 m_t_bytes__5 => JJ D X 5 0 0 20 [(0, .ref h_t), (2, .long p2), (4, .int x3)] [] [(h_t, .inr (5, [.ref h_t_bytes, .int m_t_length_4])), (h_t_bytes, jB D 200 m_t_bytes__5)]) ?_ F x3 m_t_length_4 m_t_bytes__5 h
    clear h x3 m_t_length_4 m_t_bytes__5
    intro k20 i20 x3 m_t_length_4 m_t_bytes__5 h
    replace i20 : ∀ (x3 : Int32) (m_t_length_4 : Int32) (m_t_bytes__5 : Nat → Int32), k20 x3 m_t_length_4 m_t_bytes__5 = some r → JJ D X 5 0 0 20 [(0, .ref h_t), (2, .long p2), (4, .int x3)] [] [(h_t, .inr (5, [.ref h_t_bytes, .int m_t_length_4])), (h_t_bytes, jB D 200 m_t_bytes__5)] := i20
    show JJ D X 5 0 0 20 [(0, .ref h_t), (2, .long p2), (4, .int x3)] [] [(h_t, .inr (5, [.ref h_t_bytes, .int m_t_length_4])), (h_t_bytes, jB D 200 m_t_bytes__5)]
    unfold bX6_add_20 at h
    refine j_iload C dX6_add_20 2 rfl ?_
    refine j_if_lt C (tgt := 71) dX6_add_22 (by decide) h (fun c6 h => ?_) (fun c6 h => ?_)
    · refine j_sub (lv' := [(0, .ref h_t)]) [0] rfl ?_
      exact L71 m_t_length_4 m_t_bytes__5 h
    · refine j_aload_n C dX6_add_25 rfl 0 rfl ?_
      refine j_get C ibX6 (ci := 5) 0 rfl rfl 1 (by decide) bfX6_15 (v := .int m_t_length_4) rfl dX6_add_26 ?_
      refine j_aload_n C dX6_add_29 rfl 0 rfl ?_
      refine j_get C ibX6 (ci := 5) 0 rfl rfl 0 (by decide) bfX6_11 (v := .ref h_t_bytes) rfl dX6_add_30 ?_
      refine j_blen C 1 rfl (v := (200 : Int32)) (by decide) dX6_add_33 ?_
      refine j_icmp_ge C (tgt := 71) dX6_add_34 (by decide) h (fun c9 h => ?_) (fun c9 h => ?_)
      · refine j_sub (lv' := [(0, .ref h_t)]) [0] rfl ?_
        exact L71 m_t_length_4 m_t_bytes__5 h
      · refine j_aload_n C dX6_add_37 rfl 0 rfl ?_
        refine j_get C ibX6 (ci := 5) 0 rfl rfl 0 (by decide) bfX6_11 (v := .ref h_t_bytes) rfl dX6_add_38 ?_
        refine j_aload_n C dX6_add_41 rfl 0 rfl ?_
        refine j_get C ibX6 (ci := 5) 0 rfl rfl 1 (by decide) bfX6_15 (v := .int m_t_length_4) rfl dX6_add_42 ?_
        refine j_lload_n C dX6_add_45 rfl 1 rfl ?_
        refine j_bipush C dX6_add_46 (v := (8 : Int32)) (by decide) ?_
        refine j_iload C dX6_add_48 2 rfl ?_
        refine j_imul C dX6_add_50 ?_
        refine j_lushr C dX6_add_51 ?_
        refine j_l2i C dX6_add_52 ?_
        refine j_i2b C dX6_add_53 ?_
        refine jl_inb h (fun b10 h => ?_)
        refine j_bast C 1 rfl b10 dX6_add_54 (ws' := fun g11 => [(h_t, .inr (5, [.ref h_t_bytes, .int m_t_length_4])), (h_t_bytes, jB D 200 g11)]) (fun _ => rfl) h (fun g11 h => ?_)
        refine j_aload_n C dX6_add_55 rfl 0 rfl ?_
        refine j_dup C dX6_add_56 rfl ?_
        refine j_get C ibX6 (ci := 5) 0 rfl rfl 1 (by decide) bfX6_15 (v := .int m_t_length_4) rfl dX6_add_57 ?_
        refine j_iconst C dX6_add_60 (v := (1 : Int32)) (by decide) ?_
        refine j_iadd C dX6_add_61 ?_
        refine j_nmi h (fun w12 h => ?_)
        refine j_put C ibX6 tyX6 tyX6_ok nmX6 (ci := 5) 0 rfl rfl 1 (by decide) bfX6_15 rfl rfl rfl (Nat.le_of_ble_eq_true rfl) dX6_add_62 (ws' := [(h_t, .inr (5, [.ref h_t_bytes, .int w12])), (h_t_bytes, jB D 200 g11)]) rfl ?_
        refine j_iinc C dX6_add_65 2 rfl (lv' := fun v13 => [(4, .int v13), (0, .ref h_t), (2, .long p2)]) (by decide) (fun _ => rfl) h (fun v13 h => ?_)
        refine j_goto C dX6_add_68 (tgt := 20) (by decide) ?_
        refine j_sub (lv' := [(0, .ref h_t), (2, .long p2), (4, .int v13)]) [1, 2, 0] rfl ?_
        exact i20 v13 w12 g11 h
  refine j_iload_n C dX6_add_0 rfl 1 rfl ?_
  refine j_sipush C dX6_add_1 (v := (200 : Int32)) (by decide) ?_
  refine j_aload_n C dX6_add_4 rfl 0 rfl ?_
  refine j_get C ibX6 (ci := 5) 0 rfl rfl 1 (by decide) bfX6_15 (v := .int t_length) rfl dX6_add_5 ?_
  refine j_isub C dX6_add_8 ?_
  refine j_icmp_le C (tgt := 15) dX6_add_9 (by decide) h (fun c1 h => ?_) (fun c1 h => ?_)
  · refine j_iload_n C dX6_add_15 rfl 1 rfl ?_
    refine j_iconst C dX6_add_16 (v := (1 : Int32)) (by decide) ?_
    refine j_isub C dX6_add_17 ?_
    refine j_istore C dX6_add_18 (lv' := fun v2 => [(4, .int v2), (0, .ref h_t), (1, .int p1), (2, .long p2)]) (by decide) (fun _ => rfl) h (fun v2 h => ?_)
    refine j_sub (lv' := [(0, .ref h_t), (2, .long p2), (4, .int v2)]) [1, 3, 0] rfl ?_
    exact L20 v2 t_length t_bytes_ h
  · refine j_bipush C dX6_add_12 (v := (-3 : Int32)) (by decide) ?_
    exact j_iretR C (r := r) (rtf := fun r => (some (.int r.1))) (wff := fun r => (oX6_add D h_t h_t_bytes r)) E h rfl rfl dX6_add_14
theorem dX6_empty_0 : decode cX6_empty 0 = .ok (.aload_n 0, 1) := by decide +kernel
theorem dX6_empty_1 : decode cX6_empty 1 = .ok (.getfield 15, 3) := by decide +kernel
theorem dX6_empty_4 : decode cX6_empty 4 = .ok (.istore_n 1, 1) := by decide +kernel
theorem dX6_empty_5 : decode cX6_empty 5 = .ok (.aload_n 0, 1) := by decide +kernel
theorem dX6_empty_6 : decode cX6_empty 6 = .ok (.iconst 0, 1) := by decide +kernel
theorem dX6_empty_7 : decode cX6_empty 7 = .ok (.putfield 15, 3) := by decide +kernel
theorem dX6_empty_10 : decode cX6_empty 10 = .ok (.iload_n 1, 1) := by decide +kernel
theorem dX6_empty_11 : decode cX6_empty 11 = .ok (.ireturn, 1) := by decide +kernel
def fX6_empty (t_length : Int32) : Option (Int32 × Int32) :=
(some (t_length, (0 : Int32)))
def oX6_empty (D : jv_D) (h_t : Nat) (h_t_bytes : Nat) (r : Int32 × Int32) : va_W := [(h_t, .inr (5, [.ref h_t_bytes, .int r.2]))]
set_option maxHeartbeats 40000000 in
set_option maxRecDepth 100000 in
theorem mX6_empty (l : Launch) (D : jv_D) (h_t : Nat) (h_t_bytes : Nat) (t_length : Int32) (r : Int32 × Int32) (h : fX6_empty t_length = some r) : MM l yX6_empty (jW yX6_empty cX6_empty 2 (some .int)) ({ frames := 0, cells := 0, slots := 0, locals := 0 }) D [.ref h_t] [(h_t, .inr (5, [.ref h_t_bytes, .int t_length]))] (some (.int r.1)) (oX6_empty D h_t h_t_bytes r) := by
  refine mn_of hpX6_empty (Nat.le_of_ble_eq_true rfl) ?_
  intro X hXl C E0 hN
  subst hXl
  replace C : JC D X 2 RX6 cX6_empty ({ frames := 0, cells := 0, slots := 0, locals := 0 }) := C
  have E : JE D X 0 0 (some .int) (fun _ : Unit => (some (.int r.1))) (fun _ : Unit => (oX6_empty D h_t h_t_bytes r)) := E0 0 0 rfl rfl
  clear E0 hN
  show JJ D X 2 0 0 0 [(0, .ref h_t)] [] [(h_t, .inr (5, [.ref h_t_bytes, .int t_length]))]
  unfold fX6_empty at h
  refine j_aload_n C dX6_empty_0 rfl 0 rfl ?_
  refine j_get C ibX6 (ci := 5) 0 rfl rfl 1 (by decide) bfX6_15 (v := .int t_length) rfl dX6_empty_1 ?_
  refine j_istore_nC C dX6_empty_4 rfl (lv' := [(1, .int t_length), (0, .ref h_t)]) (by decide) rfl ?_
  refine j_aload_n C dX6_empty_5 rfl 1 rfl ?_
  refine j_iconst C dX6_empty_6 (v := (0 : Int32)) (by decide) ?_
  refine j_put C ibX6 tyX6 tyX6_ok nmX6 (ci := 5) 0 rfl rfl 1 (by decide) bfX6_15 rfl rfl rfl (Nat.le_of_ble_eq_true rfl) dX6_empty_7 (ws' := [(h_t, .inr (5, [.ref h_t_bytes, .int ((0 : Int32))]))]) rfl ?_
  refine j_iload_n C dX6_empty_10 rfl 0 rfl ?_
  exact j_iretR C (r := r) (rtf := fun r => (some (.int r.1))) (wff := fun r => (oX6_empty D h_t h_t_bytes r)) E h rfl rfl dX6_empty_11
