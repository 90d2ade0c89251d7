theorem dX5_init_0 : decode cX5_init 0 = .ok (.aload_n 0, 1) := by decide +kernel
theorem dX5_init_1 : decode cX5_init 1 = .ok (.invokespecial 3, 3) := by decide +kernel
theorem dX5_init_4 : decode cX5_init 4 = .ok (.aload_n 0, 1) := by decide +kernel
theorem dX5_init_5 : decode cX5_init 5 = .ok (.bipush 9, 2) := by decide +kernel
theorem dX5_init_7 : decode cX5_init 7 = .ok (.newarray .int, 2) := by decide +kernel
theorem dX5_init_9 : decode cX5_init 9 = .ok (.putfield 9, 3) := by decide +kernel
theorem dX5_init_12 : decode cX5_init 12 = .ok (.return_, 1) := by decide +kernel
def fX5_init  : Option (Int32 × (Nat → Int32)) :=
(some ((0 : Int32), (fun _ => (0 : Int32))))
set_option maxHeartbeats 40000000 in
set_option maxRecDepth 100000 in
theorem mX5_init (l : Launch) (D : jv_D) (h_t : Nat) (r : Int32 × (Nat → Int32)) (h : fX5_init  = some r) : MN l yX5_init (jW yX5_init cX5_init 1 none) ({ frames := 1, cells := 1, slots := 9, locals := 64 }) D [.ref h_t] [(h_t, .inr (4, [.null, .int ((0 : Int32))]))] 1 9 (fun _ : Nat => none) (fun u : Nat => [(h_t, .inr (4, [.ref u, .int r.1])), (u, jI D 9 r.2)]) := by
  refine mn_of hpX5_init (Nat.le_of_ble_eq_true rfl) ?_
  intro X hXl C E hN
  subst hXl
  replace C : JC D X 1 RX5 cX5_init ({ frames := 1, cells := 1, slots := 9, locals := 64 }) := C
  show JJ D X 1 0 0 0 [(0, .ref h_t)] [] [(h_t, .inr (4, [.null, .int ((0 : Int32))]))]
  unfold fX5_init at h
  refine j_aload_n C dX5_init_0 rfl 0 rfl ?_
  refine j_objInit C bmX5_3 boi boc dX5_init_1 ⟨Nat.le_of_ble_eq_true rfl, Nat.le_of_ble_eq_true rfl⟩ ?_
  refine j_aload_n C dX5_init_4 rfl 0 rfl ?_
  refine j_bipush C dX5_init_5 (v := (9 : Int32)) (by decide) ?_
  refine j_newa C (atype := .int) 0 (ty := .int) rfl (fun _ _ h => h) baa_int rfl (N := 9) (a0 := (9, .inl (fun _ => (0 : Int32)))) (fun _ => rfl) (by decide) (by decide +kernel) (Nat.le_of_ble_eq_true rfl) ⟨Nat.le_of_ble_eq_true rfl, Nat.le_of_ble_eq_true rfl⟩ dX5_init_7 (fun h1 => ?_)
  show JJ D X 1 (0 + 1) (0 + 9) 9 [(0, .ref h_t)] [.ref h1, .ref h_t] [(h_t, .inr (4, [.null, .int ((0 : Int32))])), (h1, jI D 9 ((fun _ => (0 : Int32))))]
  refine j_putF C ibX5 tyX5 tyX5_ok nmX5 (hN rfl) (ci := 4) 0 rfl rfl 0 (by decide) bfX5_9 rfl rfl rfl rfl (Nat.le_of_ble_eq_true rfl) dX5_init_9 (ws' := [(h_t, .inr (4, [.ref h1, .int ((0 : Int32))])), (h1, jI D 9 ((fun _ => (0 : Int32))))]) rfl ?_
  obtain rfl := jl_some h
  exact j_vret C (E _ _ rfl rfl) (h1) rfl rfl dX5_init_12
theorem dX5_add_0 : decode cX5_add 0 = .ok (.aload_n 0, 1) := by decide +kernel
theorem dX5_add_1 : decode cX5_add 1 = .ok (.getfield 15, 3) := by decide +kernel
theorem dX5_add_4 : decode cX5_add 4 = .ok (.ifCond .lt 15, 3) := by decide +kernel
theorem dX5_add_7 : decode cX5_add 7 = .ok (.aload_n 0, 1) := by decide +kernel
theorem dX5_add_8 : decode cX5_add 8 = .ok (.getfield 15, 3) := by decide +kernel
theorem dX5_add_11 : decode cX5_add 11 = .ok (.aload_n 0, 1) := by decide +kernel
theorem dX5_add_12 : decode cX5_add 12 = .ok (.getfield 9, 3) := by decide +kernel
theorem dX5_add_15 : decode cX5_add 15 = .ok (.arraylength, 1) := by decide +kernel
theorem dX5_add_16 : decode cX5_add 16 = .ok (.if_icmp .lt 6, 3) := by decide +kernel
theorem dX5_add_19 : decode cX5_add 19 = .ok (.bipush (-3), 2) := by decide +kernel
theorem dX5_add_21 : decode cX5_add 21 = .ok (.ireturn, 1) := by decide +kernel
theorem dX5_add_22 : decode cX5_add 22 = .ok (.aload_n 0, 1) := by decide +kernel
theorem dX5_add_23 : decode cX5_add 23 = .ok (.getfield 9, 3) := by decide +kernel
theorem dX5_add_26 : decode cX5_add 26 = .ok (.aload_n 0, 1) := by decide +kernel
theorem dX5_add_27 : decode cX5_add 27 = .ok (.getfield 15, 3) := by decide +kernel
theorem dX5_add_30 : decode cX5_add 30 = .ok (.iload_n 1, 1) := by decide +kernel
theorem dX5_add_31 : decode cX5_add 31 = .ok (.iastore, 1) := by decide +kernel
theorem dX5_add_32 : decode cX5_add 32 = .ok (.aload_n 0, 1) := by decide +kernel
theorem dX5_add_33 : decode cX5_add 33 = .ok (.dup, 1) := by decide +kernel
theorem dX5_add_34 : decode cX5_add 34 = .ok (.getfield 15, 3) := by decide +kernel
theorem dX5_add_37 : decode cX5_add 37 = .ok (.iconst 1, 1) := by decide +kernel
theorem dX5_add_38 : decode cX5_add 38 = .ok (.iadd, 1) := by decide +kernel
theorem dX5_add_39 : decode cX5_add 39 = .ok (.putfield 15, 3) := by decide +kernel
theorem dX5_add_42 : decode cX5_add 42 = .ok (.aload_n 0, 1) := by decide +kernel
theorem dX5_add_43 : decode cX5_add 43 = .ok (.getfield 15, 3) := by decide +kernel
theorem dX5_add_46 : decode cX5_add 46 = .ok (.ireturn, 1) := by decide +kernel
def fX5_add (t_length : Int32) (t_paintings_ : Nat → Int32) (p1 : Int32) : Option (Int32 × Int32 × (Nat → Int32)) :=
(if t_length < 0 then
(some ((-3 : Int32), t_length, t_paintings_))
else
(if t_length < ((9 : Int32)) then
(if t_length < 0 ∨ 9 ≤ t_length.toNatClampNeg then none else
(jl_let (upd t_paintings_ t_length.toNatClampNeg p1) fun g4 =>
(jl_let (t_length + ((1 : Int32))) fun w5 =>
(some (w5, w5, g4)))))
else
(some ((-3 : Int32), t_length, t_paintings_))))
def oX5_add (D : jv_D) (h_t : Nat) (h_t_paintings : Nat) (r : Int32 × Int32 × (Nat → Int32)) : va_W := [(h_t, .inr (4, [.ref h_t_paintings, .int r.2.1])), (h_t_paintings, jI D 9 r.2.2)]
set_option maxHeartbeats 40000000 in
set_option maxRecDepth 100000 in
theorem mX5_add (l : Launch) (D : jv_D) (h_t : Nat) (h_t_paintings : Nat) (t_length : Int32) (t_paintings_ : Nat → Int32) (p1 : Int32) (r : Int32 × Int32 × (Nat → Int32)) (h : fX5_add t_length t_paintings_ p1 = some r) : MM l yX5_add (jW yX5_add cX5_add 2 (some .int)) ({ frames := 0, cells := 0, slots := 0, locals := 0 }) D [.ref h_t, .int p1] [(h_t, .inr (4, [.ref h_t_paintings, .int t_length])), (h_t_paintings, jI D 9 t_paintings_)] (some (.int r.1)) (oX5_add D h_t h_t_paintings r) := by
  refine mn_of hpX5_add (Nat.le_of_ble_eq_true rfl) ?_
  intro X hXl C E0 hN
  subst hXl
  replace C : JC D X 2 RX5 cX5_add ({ frames := 0, cells := 0, slots := 0, locals := 0 }) := C
  have E : JE D X 0 0 (some .int) (fun _ : Unit => (some (.int r.1))) (fun _ : Unit => (oX5_add D h_t h_t_paintings r)) := E0 0 0 rfl rfl
  clear E0 hN
  show JJ D X 2 0 0 0 [(0, .ref h_t), (1, .int p1)] [] [(h_t, .inr (4, [.ref h_t_paintings, .int t_length])), (h_t_paintings, jI D 9 t_paintings_)]
  unfold fX5_add at h
  refine j_aload_n C dX5_add_0 rfl 0 rfl ?_
  refine j_get C ibX5 (ci := 4) 0 rfl rfl 1 (by decide) bfX5_15 (v := .int t_length) rfl dX5_add_1 ?_
  refine j_if_lt C (tgt := 19) dX5_add_4 (by decide) h (fun c1 h => ?_) (fun c1 h => ?_)
  · refine j_bipush C dX5_add_19 (v := (-3 : Int32)) (by decide) ?_
    exact j_iretR C (r := r) (rtf := fun r => (some (.int r.1))) (wff := fun r => (oX5_add D h_t h_t_paintings r)) E h rfl rfl dX5_add_21
  · refine j_aload_n C dX5_add_7 rfl 0 rfl ?_
    refine j_get C ibX5 (ci := 4) 0 rfl rfl 1 (by decide) bfX5_15 (v := .int t_length) rfl dX5_add_8 ?_
    refine j_aload_n C dX5_add_11 rfl 0 rfl ?_
    refine j_get C ibX5 (ci := 4) 0 rfl rfl 0 (by decide) bfX5_9 (v := .ref h_t_paintings) rfl dX5_add_12 ?_
    refine j_ilen C 1 rfl (v := (9 : Int32)) (by decide) dX5_add_15 ?_
    refine j_icmp_lt C (tgt := 22) dX5_add_16 (by decide) h (fun c2 h => ?_) (fun c2 h => ?_)
    · refine j_aload_n C dX5_add_22 rfl 0 rfl ?_
      refine j_get C ibX5 (ci := 4) 0 rfl rfl 0 (by decide) bfX5_9 (v := .ref h_t_paintings) rfl dX5_add_23 ?_
      refine j_aload_n C dX5_add_26 rfl 0 rfl ?_
      refine j_get C ibX5 (ci := 4) 0 rfl rfl 1 (by decide) bfX5_15 (v := .int t_length) rfl dX5_add_27 ?_
      refine j_iload_n C dX5_add_30 rfl 1 rfl ?_
      refine jl_inb h (fun b3 h => ?_)
      refine j_iast C 1 rfl b3 dX5_add_31 (ws' := fun g4 => [(h_t, .inr (4, [.ref h_t_paintings, .int t_length])), (h_t_paintings, jI D 9 g4)]) (fun _ => rfl) h (fun g4 h => ?_)
      refine j_aload_n C dX5_add_32 rfl 0 rfl ?_
      refine j_dup C dX5_add_33 rfl ?_
      refine j_get C ibX5 (ci := 4) 0 rfl rfl 1 (by decide) bfX5_15 (v := .int t_length) rfl dX5_add_34 ?_
      refine j_iconst C dX5_add_37 (v := (1 : Int32)) (by decide) ?_
      refine j_iadd C dX5_add_38 ?_
      refine j_nmi h (fun w5 h => ?_)
      refine j_put C ibX5 tyX5 tyX5_ok nmX5 (ci := 4) 0 rfl rfl 1 (by decide) bfX5_15 rfl rfl rfl (Nat.le_of_ble_eq_true rfl) dX5_add_39 (ws' := [(h_t, .inr (4, [.ref h_t_paintings, .int w5])), (h_t_paintings, jI D 9 g4)]) rfl ?_
      refine j_aload_n C dX5_add_42 rfl 0 rfl ?_
      refine j_get C ibX5 (ci := 4) 0 rfl rfl 1 (by decide) bfX5_15 (v := .int w5) rfl dX5_add_43 ?_
      exact j_iretR C (r := r) (rtf := fun r => (some (.int r.1))) (wff := fun r => (oX5_add D h_t h_t_paintings r)) E h rfl rfl dX5_add_46
    · refine j_bipush C dX5_add_19 (v := (-3 : Int32)) (by decide) ?_
      exact j_iretR C (r := r) (rtf := fun r => (some (.int r.1))) (wff := fun r => (oX5_add D h_t h_t_paintings r)) E h rfl rfl dX5_add_21
theorem dX5_empty_0 : decode cX5_empty 0 = .ok (.aload_n 0, 1) := by decide +kernel
theorem dX5_empty_1 : decode cX5_empty 1 = .ok (.getfield 15, 3) := by decide +kernel
theorem dX5_empty_4 : decode cX5_empty 4 = .ok (.istore_n 1, 1) := by decide +kernel
theorem dX5_empty_5 : decode cX5_empty 5 = .ok (.aload_n 0, 1) := by decide +kernel
theorem dX5_empty_6 : decode cX5_empty 6 = .ok (.iconst 0, 1) := by decide +kernel
theorem dX5_empty_7 : decode cX5_empty 7 = .ok (.putfield 15, 3) := by decide +kernel
theorem dX5_empty_10 : decode cX5_empty 10 = .ok (.iload_n 1, 1) := by decide +kernel
theorem dX5_empty_11 : decode cX5_empty 11 = .ok (.ireturn, 1) := by decide +kernel
def fX5_empty (t_length : Int32) : Option (Int32 × Int32) :=
(some (t_length, (0 : Int32)))
def oX5_empty (D : jv_D) (h_t : Nat) (h_t_paintings : Nat) (r : Int32 × Int32) : va_W := [(h_t, .inr (4, [.ref h_t_paintings, .int r.2]))]
set_option maxHeartbeats 40000000 in
set_option maxRecDepth 100000 in
theorem mX5_empty (l : Launch) (D : jv_D) (h_t : Nat) (h_t_paintings : Nat) (t_length : Int32) (r : Int32 × Int32) (h : fX5_empty t_length = some r) : MM l yX5_empty (jW yX5_empty cX5_empty 2 (some .int)) ({ frames := 0, cells := 0, slots := 0, locals := 0 }) D [.ref h_t] [(h_t, .inr (4, [.ref h_t_paintings, .int t_length]))] (some (.int r.1)) (oX5_empty D h_t h_t_paintings r) := by
  refine mn_of hpX5_empty (Nat.le_of_ble_eq_true rfl) ?_
  intro X hXl C E0 hN
  subst hXl
  replace C : JC D X 2 RX5 cX5_empty ({ frames := 0, cells := 0, slots := 0, locals := 0 }) := C
  have E : JE D X 0 0 (some .int) (fun _ : Unit => (some (.int r.1))) (fun _ : Unit => (oX5_empty D h_t h_t_paintings r)) := E0 0 0 rfl rfl
  clear E0 hN
  show JJ D X 2 0 0 0 [(0, .ref h_t)] [] [(h_t, .inr (4, [.ref h_t_paintings, .int t_length]))]
  unfold fX5_empty at h
  refine j_aload_n C dX5_empty_0 rfl 0 rfl ?_
  refine j_get C ibX5 (ci := 4) 0 rfl rfl 1 (by decide) bfX5_15 (v := .int t_length) rfl dX5_empty_1 ?_
  refine j_istore_nC C dX5_empty_4 rfl (lv' := [(1, .int t_length), (0, .ref h_t)]) (by decide) rfl ?_
  refine j_aload_n C dX5_empty_5 rfl 1 rfl ?_
  refine j_iconst C dX5_empty_6 (v := (0 : Int32)) (by decide) ?_
  refine j_put C ibX5 tyX5 tyX5_ok nmX5 (ci := 4) 0 rfl rfl 1 (by decide) bfX5_15 rfl rfl rfl (Nat.le_of_ble_eq_true rfl) dX5_empty_7 (ws' := [(h_t, .inr (4, [.ref h_t_paintings, .int ((0 : Int32))]))]) rfl ?_
  refine j_iload_n C dX5_empty_10 rfl 0 rfl ?_
  exact j_iretR C (r := r) (rtf := fun r => (some (.int r.1))) (wff := fun r => (oX5_empty D h_t h_t_paintings r)) E h rfl rfl dX5_empty_11
theorem dX5_firstWrong_0 : decode cX5_firstWrong 0 = .ok (.aload_n 1, 1) := by decide +kernel
theorem dX5_firstWrong_1 : decode cX5_firstWrong 1 = .ok (.iload_n 2, 1) := by decide +kernel
theorem dX5_firstWrong_2 : decode cX5_firstWrong 2 = .ok (.invokevirtual 19, 3) := by decide +kernel
theorem dX5_firstWrong_5 : decode cX5_firstWrong 5 = .ok (.istore 4, 2) := by decide +kernel
theorem dX5_firstWrong_7 : decode cX5_firstWrong 7 = .ok (.iload_n 3, 1) := by decide +kernel
theorem dX5_firstWrong_8 : decode cX5_firstWrong 8 = .ok (.istore 5, 2) := by decide +kernel
theorem dX5_firstWrong_10 : decode cX5_firstWrong 10 = .ok (.iconst 0, 1) := by decide +kernel
theorem dX5_firstWrong_11 : decode cX5_firstWrong 11 = .ok (.istore 6, 2) := by decide +kernel
theorem dX5_firstWrong_13 : decode cX5_firstWrong 13 = .ok (.iload 6, 2) := by decide +kernel
theorem dX5_firstWrong_15 : decode cX5_firstWrong 15 = .ok (.aload_n 0, 1) := by decide +kernel
theorem dX5_firstWrong_16 : decode cX5_firstWrong 16 = .ok (.getfield 15, 3) := by decide +kernel
theorem dX5_firstWrong_19 : decode cX5_firstWrong 19 = .ok (.if_icmp .ge 63, 3) := by decide +kernel
theorem dX5_firstWrong_22 : decode cX5_firstWrong 22 = .ok (.iload 6, 2) := by decide +kernel
theorem dX5_firstWrong_24 : decode cX5_firstWrong 24 = .ok (.aload_n 0, 1) := by decide +kernel
theorem dX5_firstWrong_25 : decode cX5_firstWrong 25 = .ok (.getfield 9, 3) := by decide +kernel
theorem dX5_firstWrong_28 : decode cX5_firstWrong 28 = .ok (.arraylength, 1) := by decide +kernel
theorem dX5_firstWrong_29 : decode cX5_firstWrong 29 = .ok (.if_icmp .ge 53, 3) := by decide +kernel
theorem dX5_firstWrong_32 : decode cX5_firstWrong 32 = .ok (.iload 4, 2) := by decide +kernel
theorem dX5_firstWrong_34 : decode cX5_firstWrong 34 = .ok (.aload_n 1, 1) := by decide +kernel
theorem dX5_firstWrong_35 : decode cX5_firstWrong 35 = .ok (.iload 5, 2) := by decide +kernel
theorem dX5_firstWrong_37 : decode cX5_firstWrong 37 = .ok (.invokevirtual 25, 3) := by decide +kernel
theorem dX5_firstWrong_40 : decode cX5_firstWrong 40 = .ok (.iand, 1) := by decide +kernel
theorem dX5_firstWrong_41 : decode cX5_firstWrong 41 = .ok (.aload_n 0, 1) := by decide +kernel
theorem dX5_firstWrong_42 : decode cX5_firstWrong 42 = .ok (.getfield 9, 3) := by decide +kernel
theorem dX5_firstWrong_45 : decode cX5_firstWrong 45 = .ok (.iload 6, 2) := by decide +kernel
theorem dX5_firstWrong_47 : decode cX5_firstWrong 47 = .ok (.iaload, 1) := by decide +kernel
theorem dX5_firstWrong_48 : decode cX5_firstWrong 48 = .ok (.iand, 1) := by decide +kernel
theorem dX5_firstWrong_49 : decode cX5_firstWrong 49 = .ok (.ifCond .ne 6, 3) := by decide +kernel
theorem dX5_firstWrong_52 : decode cX5_firstWrong 52 = .ok (.iload 6, 2) := by decide +kernel
theorem dX5_firstWrong_54 : decode cX5_firstWrong 54 = .ok (.ireturn, 1) := by decide +kernel
theorem dX5_firstWrong_55 : decode cX5_firstWrong 55 = .ok (.aload_n 1, 1) := by decide +kernel
theorem dX5_firstWrong_56 : decode cX5_firstWrong 56 = .ok (.iload 4, 2) := by decide +kernel
theorem dX5_firstWrong_58 : decode cX5_firstWrong 58 = .ok (.aload_n 0, 1) := by decide +kernel
theorem dX5_firstWrong_59 : decode cX5_firstWrong 59 = .ok (.getfield 9, 3) := by decide +kernel
theorem dX5_firstWrong_62 : decode cX5_firstWrong 62 = .ok (.iload 6, 2) := by decide +kernel
theorem dX5_firstWrong_64 : decode cX5_firstWrong 64 = .ok (.iaload, 1) := by decide +kernel
theorem dX5_firstWrong_65 : decode cX5_firstWrong 65 = .ok (.invokevirtual 28, 3) := by decide +kernel
theorem dX5_firstWrong_68 : decode cX5_firstWrong 68 = .ok (.istore 4, 2) := by decide +kernel
theorem dX5_firstWrong_70 : decode cX5_firstWrong 70 = .ok (.iconst 1, 1) := by decide +kernel
theorem dX5_firstWrong_71 : decode cX5_firstWrong 71 = .ok (.iload 5, 2) := by decide +kernel
theorem dX5_firstWrong_73 : decode cX5_firstWrong 73 = .ok (.isub, 1) := by decide +kernel
theorem dX5_firstWrong_74 : decode cX5_firstWrong 74 = .ok (.istore 5, 2) := by decide +kernel
theorem dX5_firstWrong_76 : decode cX5_firstWrong 76 = .ok (.iinc 6 1, 3) := by decide +kernel
theorem dX5_firstWrong_79 : decode cX5_firstWrong 79 = .ok (.goto (-66), 3) := by decide +kernel
theorem dX5_firstWrong_82 : decode cX5_firstWrong 82 = .ok (.bipush (-4), 2) := by decide +kernel
theorem dX5_firstWrong_84 : decode cX5_firstWrong 84 = .ok (.ireturn, 1) := by decide +kernel
def bX5_firstWrong_13 (F : Nat) (t_length : Int32) (t_paintings_ : Nat → Int32) (a1_fitsAtFirst : Int32) (a1_paintingsOf0 : Int32) (a1_paintingsOf1 : Int32) (a1_ruledOut_ : Nat → Int32) (p2 : Int32) (p3 : Int32)  (k13 : Int32 → Int32 → Int32 → Option (Int32)) (x3 : Int32) (x4 : Int32) (x5 : Int32) : Option (Int32) :=
(if t_length ≤ x5 then
(some ((-4 : Int32)))
else
(if ((9 : Int32)) ≤ x5 then
(some ((-4 : Int32)))
else
((fX3_paintingsOf a1_paintingsOf0 a1_paintingsOf1 x4).bind fun r8 =>
(if x5 < 0 ∨ 9 ≤ x5.toNatClampNeg then none else
(if ((x3 &&& r8) &&& (t_paintings_ x5.toNatClampNeg)) = 0 then
(some (x5))
else
(if x5 < 0 ∨ 9 ≤ x5.toNatClampNeg then none else
((fX3_fittingAfter a1_ruledOut_ x3 (t_paintings_ x5.toNatClampNeg)).bind fun r13 =>
(jl_let (((1 : Int32)) - x4) fun v15 =>
(jl_let (x5 + Int32.ofInt (1)) fun v16 =>
(k13 r13 v15 v16))))))))))
def lX5_firstWrong_13 (F : Nat) (t_length : Int32) (t_paintings_ : Nat → Int32) (a1_fitsAtFirst : Int32) (a1_paintingsOf0 : Int32) (a1_paintingsOf1 : Int32) (a1_ruledOut_ : Nat → Int32) (p2 : Int32) (p3 : Int32)  (F2 : Nat) (x3 : Int32) (x4 : Int32) (x5 : Int32) : Option (Int32) := jl_loop3 (bX5_firstWrong_13 F t_length t_paintings_ a1_fitsAtFirst a1_paintingsOf0 a1_paintingsOf1 a1_ruledOut_ p2 p3 ) F2 x3 x4 x5
def fX5_firstWrong (F : Nat) (t_length : Int32) (t_paintings_ : Nat → Int32) (a1_fitsAtFirst : Int32) (a1_paintingsOf0 : Int32) (a1_paintingsOf1 : Int32) (a1_ruledOut_ : Nat → Int32) (p2 : Int32) (p3 : Int32) : Option (Int32) :=
((fX3_fitting F a1_fitsAtFirst a1_ruledOut_ p2).bind fun r1 =>
(lX5_firstWrong_13 F t_length t_paintings_ a1_fitsAtFirst a1_paintingsOf0 a1_paintingsOf1 a1_ruledOut_ p2 p3 F r1 p3 ((0 : Int32))))
def oX5_firstWrong (D : jv_D) (h_t : Nat) (h_a1 : Nat) (h_t_paintings : Nat) (h_a1_ruledOut : Nat) (t_length : Int32) (t_paintings_ : Nat → Int32) (a1_rows : Int32) (a1_columns : Int32) (a1_paints : Int32) (a1_apart : Int32) (a1_paintsOf0 : Int32) (a1_paintsOf1 : Int32) (a1_old : Int32) (a1_shut : Int32) (a1_all : Int32) (a1_firstColumn : Int32) (a1_fitsAtFirst : Int32) (a1_paintingsOf0 : Int32) (a1_paintingsOf1 : Int32) (a1_ruledOut_ : Nat → Int32) (r : Int32) : va_W := [(h_t, .inr (4, [.ref h_t_paintings, .int t_length])), (h_t_paintings, jI D 9 t_paintings_), (h_a1, .inr (2, [.int a1_rows, .int a1_columns, .int a1_paints, .int a1_apart, .int a1_paintsOf0, .int a1_paintsOf1, .int a1_old, .int a1_shut, .int a1_all, .int a1_firstColumn, .int a1_fitsAtFirst, .int a1_paintingsOf0, .int a1_paintingsOf1, .ref h_a1_ruledOut])), (h_a1_ruledOut, jI D 27 a1_ruledOut_)]
set_option maxHeartbeats 40000000 in
set_option maxRecDepth 100000 in
theorem mX5_firstWrong (l : Launch) (D : jv_D) (F : Nat) (h_t : Nat) (h_a1 : Nat) (h_t_paintings : Nat) (h_a1_ruledOut : Nat) (t_length : Int32) (t_paintings_ : Nat → Int32) (a1_rows : Int32) (a1_columns : Int32) (a1_paints : Int32) (a1_apart : Int32) (a1_paintsOf0 : Int32) (a1_paintsOf1 : Int32) (a1_old : Int32) (a1_shut : Int32) (a1_all : Int32) (a1_firstColumn : Int32) (a1_fitsAtFirst : Int32) (a1_paintingsOf0 : Int32) (a1_paintingsOf1 : Int32) (a1_ruledOut_ : Nat → Int32) (p2 : Int32) (p3 : Int32) (r : Int32) (h : fX5_firstWrong F t_length t_paintings_ a1_fitsAtFirst a1_paintingsOf0 a1_paintingsOf1 a1_ruledOut_ p2 p3 = some r) : MM l yX5_firstWrong (jW yX5_firstWrong cX5_firstWrong 7 (some .int)) ({ frames := 2, cells := 0, slots := 0, locals := 43 }) D [.ref h_t, .ref h_a1, .int p2, .int p3] [(h_t, .inr (4, [.ref h_t_paintings, .int t_length])), (h_t_paintings, jI D 9 t_paintings_), (h_a1, .inr (2, [.int a1_rows, .int a1_columns, .int a1_paints, .int a1_apart, .int a1_paintsOf0, .int a1_paintsOf1, .int a1_old, .int a1_shut, .int a1_all, .int a1_firstColumn, .int a1_fitsAtFirst, .int a1_paintingsOf0, .int a1_paintingsOf1, .ref h_a1_ruledOut])), (h_a1_ruledOut, jI D 27 a1_ruledOut_)] (some (.int r)) (oX5_firstWrong D h_t h_a1 h_t_paintings h_a1_ruledOut t_length t_paintings_ a1_rows a1_columns a1_paints a1_apart a1_paintsOf0 a1_paintsOf1 a1_old a1_shut a1_all a1_firstColumn a1_fitsAtFirst a1_paintingsOf0 a1_paintingsOf1 a1_ruledOut_ r) := by
  refine mn_of hpX5_firstWrong (Nat.le_of_ble_eq_true rfl) ?_
  intro X hXl C E0 hN
  subst hXl
  replace C : JC D X 7 RX5 cX5_firstWrong ({ frames := 2, cells := 0, slots := 0, locals := 43 }) := C
  have E : JE D X 0 0 (some .int) (fun _ : Unit => (some (.int r))) (fun _ : Unit => (oX5_firstWrong D h_t h_a1 h_t_paintings h_a1_ruledOut t_length t_paintings_ a1_rows a1_columns a1_paints a1_apart a1_paintsOf0 a1_paintsOf1 a1_old a1_shut a1_all a1_firstColumn a1_fitsAtFirst a1_paintingsOf0 a1_paintingsOf1 a1_ruledOut_ r)) := E0 0 0 rfl rfl
  clear E0 hN
  show JJ D X 7 0 0 0 [(0, .ref h_t), (1, .ref h_a1), (2, .int p2), (3, .int p3)] [] [(h_t, .inr (4, [.ref h_t_paintings, .int t_length])), (h_t_paintings, jI D 9 t_paintings_), (h_a1, .inr (2, [.int a1_rows, .int a1_columns, .int a1_paints, .int a1_apart, .int a1_paintsOf0, .int a1_paintsOf1, .int a1_old, .int a1_shut, .int a1_all, .int a1_firstColumn, .int a1_fitsAtFirst, .int a1_paintingsOf0, .int a1_paintingsOf1, .ref h_a1_ruledOut])), (h_a1_ruledOut, jI D 27 a1_ruledOut_)]
  unfold fX5_firstWrong at h
  have L13 : ∀ (x3 : Int32) (x4 : Int32) (x5 : Int32), lX5_firstWrong_13 F t_length t_paintings_ a1_fitsAtFirst a1_paintingsOf0 a1_paintingsOf1 a1_ruledOut_ p2 p3  F x3 x4 x5 = some r → JJ D X 7 0 0 13 [(0, .ref h_t), (1, .ref h_a1), (4, .int x3), (5, .int x4), (6, .int x5)] [] [(h_t, .inr (4, [.ref h_t_paintings, .int t_length])), (h_t_paintings, jI D 9 t_paintings_), (h_a1, .inr (2, [.int a1_rows, .int a1_columns, .int a1_paints, .int a1_apart, .int a1_paintsOf0, .int a1_paintsOf1, .int a1_old, .int a1_shut, .int a1_all, .int a1_firstColumn, .int a1_fitsAtFirst, .int a1_paintingsOf0, .int a1_paintingsOf1, .ref h_a1_ruledOut])), (h_a1_ruledOut, jI D 27 a1_ruledOut_)] := by
    intro x3 x4 x5 h
    refine jl_ind3 (fun x3 x4 x5 => JJ D X 7 0 0 13 [(0, .ref h_t), (1, .ref h_a1), (4, .int x3), (5, .int x4), (6, .int x5)] [] [(h_t, .inr (4, [.ref h_t_paintings, .int t_length])), (h_t_paintings, jI D 9 t_paintings_), (h_a1, .inr (2, [.int a1_rows, .int a1_columns, .int a1_paints, .int a1_apart, .int a1_paintsOf0, .int a1_paintsOf1, .int a1_old, .int a1_shut, .int a1_all, .int a1_firstColumn, .int a1_fitsAtFirst, .int a1_paintingsOf0, .int a1_paintingsOf1, .ref h_a1_ruledOut])), (h_a1_ruledOut, jI D 27 a1_ruledOut_)]) ?_ F x3 x4 x5 h
    clear h x3 x4 x5
    intro k13 i13 x3 x4 x5 h
    replace i13 : ∀ (x3 : Int32) (x4 : Int32) (x5 : Int32), k13 x3 x4 x5 = some r → JJ D X 7 0 0 13 [(0, .ref h_t), (1, .ref h_a1), (4, .int x3), (5, .int x4), (6, .int x5)] [] [(h_t, .inr (4, [.ref h_t_paintings, .int t_length])), (h_t_paintings, jI D 9 t_paintings_), (h_a1, .inr (2, [.int a1_rows, .int a1_columns, .int a1_paints, .int a1_apart, .int a1_paintsOf0, .int a1_paintsOf1, .int a1_old, .int a1_shut, .int a1_all, .int a1_firstColumn, .int a1_fitsAtFirst, .int a1_paintingsOf0, .int a1_paintingsOf1, .ref h_a1_ruledOut])), (h_a1_ruledOut, jI D 27 a1_ruledOut_)] := i13
    show JJ D X 7 0 0 13 [(0, .ref h_t), (1, .ref h_a1), (4, .int x3), (5, .int x4), (6, .int x5)] [] [(h_t, .inr (4, [.ref h_t_paintings, .int t_length])), (h_t_paintings, jI D 9 t_paintings_), (h_a1, .inr (2, [.int a1_rows, .int a1_columns, .int a1_paints, .int a1_apart, .int a1_paintsOf0, .int a1_paintsOf1, .int a1_old, .int a1_shut, .int a1_all, .int a1_firstColumn, .int a1_fitsAtFirst, .int a1_paintingsOf0, .int a1_paintingsOf1, .ref h_a1_ruledOut])), (h_a1_ruledOut, jI D 27 a1_ruledOut_)]
    unfold bX5_firstWrong_13 at h
    refine j_iload C dX5_firstWrong_13 4 rfl ?_
    refine j_aload_n C dX5_firstWrong_15 rfl 0 rfl ?_
    refine j_get C ibX5 (ci := 4) 0 rfl rfl 1 (by decide) bfX5_15 (v := .int t_length) rfl dX5_firstWrong_16 ?_
    refine j_icmp_ge C (tgt := 82) dX5_firstWrong_19 (by decide) h (fun c6 h => ?_) (fun c6 h => ?_)
    · refine j_bipush C dX5_firstWrong_82 (v := (-4 : Int32)) (by decide) ?_
      exact j_iretR C (r := r) (rtf := fun r => (some (.int r))) (wff := fun r => (oX5_firstWrong D h_t h_a1 h_t_paintings h_a1_ruledOut t_length t_paintings_ a1_rows a1_columns a1_paints a1_apart a1_paintsOf0 a1_paintsOf1 a1_old a1_shut a1_all a1_firstColumn a1_fitsAtFirst a1_paintingsOf0 a1_paintingsOf1 a1_ruledOut_ r)) E h rfl rfl dX5_firstWrong_84
    · refine j_iload C dX5_firstWrong_22 4 rfl ?_
      refine j_aload_n C dX5_firstWrong_24 rfl 0 rfl ?_
      refine j_get C ibX5 (ci := 4) 0 rfl rfl 0 (by decide) bfX5_9 (v := .ref h_t_paintings) rfl dX5_firstWrong_25 ?_
      refine j_ilen C 1 rfl (v := (9 : Int32)) (by decide) dX5_firstWrong_28 ?_
      refine j_icmp_ge C (tgt := 82) dX5_firstWrong_29 (by decide) h (fun c7 h => ?_) (fun c7 h => ?_)
      · refine j_bipush C dX5_firstWrong_82 (v := (-4 : Int32)) (by decide) ?_
        exact j_iretR C (r := r) (rtf := fun r => (some (.int r))) (wff := fun r => (oX5_firstWrong D h_t h_a1 h_t_paintings h_a1_ruledOut t_length t_paintings_ a1_rows a1_columns a1_paints a1_apart a1_paintsOf0 a1_paintsOf1 a1_old a1_shut a1_all a1_firstColumn a1_fitsAtFirst a1_paintingsOf0 a1_paintingsOf1 a1_ruledOut_ r)) E h rfl rfl dX5_firstWrong_84
      · refine j_iload C dX5_firstWrong_32 2 rfl ?_
        refine j_aload_n C dX5_firstWrong_34 rfl 1 rfl ?_
        refine j_iload C dX5_firstWrong_35 3 rfl ?_
        obtain ⟨r8, q9, h⟩ := jl_bind h
        refine j_cV1 C (mX3_paintingsOf (jlaunch X) D h_a1 h_a1_ruledOut a1_rows a1_columns a1_paints a1_apart a1_paintsOf0 a1_paintsOf1 a1_old a1_shut a1_all a1_firstColumn a1_fitsAtFirst a1_paintingsOf0 a1_paintingsOf1 x4 r8 q9) bmX5_25 biX3_paintingsOf bsX3_paintingsOf bzX3 bcX3_paintingsOf rfl hX3_paintingsOf (rest := [.int x3]) rfl (jroom_of rfl) 0 (ci := 2) rfl rfl rfl [2] [0, 1, 3] [0, 1, 3, 2] (wr := [(h_t, .inr (4, [.ref h_t_paintings, .int t_length])), (h_t_paintings, jI D 9 t_paintings_), (h_a1_ruledOut, jI D 27 a1_ruledOut_)]) (ws2 := [(h_t, .inr (4, [.ref h_t_paintings, .int t_length])), (h_t_paintings, jI D 9 t_paintings_), (h_a1, .inr (2, [.int a1_rows, .int a1_columns, .int a1_paints, .int a1_apart, .int a1_paintsOf0, .int a1_paintsOf1, .int a1_old, .int a1_shut, .int a1_all, .int a1_firstColumn, .int a1_fitsAtFirst, .int a1_paintingsOf0, .int a1_paintingsOf1, .ref h_a1_ruledOut])), (h_a1_ruledOut, jI D 27 a1_ruledOut_)]) rfl rfl rfl rfl rfl (Nat.le_of_ble_eq_true rfl) dX5_firstWrong_37 ?_
        refine j_iand C dX5_firstWrong_40 ?_
        refine j_aload_n C dX5_firstWrong_41 rfl 0 rfl ?_
        refine j_get C ibX5 (ci := 4) 0 rfl rfl 0 (by decide) bfX5_9 (v := .ref h_t_paintings) rfl dX5_firstWrong_42 ?_
        refine j_iload C dX5_firstWrong_45 4 rfl ?_
        refine jl_inb h (fun b10 h => ?_)
        refine j_iald C 1 rfl b10 dX5_firstWrong_47 ?_
        refine j_iand C dX5_firstWrong_48 ?_
        refine j_if_ne C (tgt := 55) dX5_firstWrong_49 (by decide) h (fun c11 h => ?_) (fun c11 h => ?_)
        · refine j_iload C dX5_firstWrong_52 4 rfl ?_
          exact j_iretR C (r := r) (rtf := fun r => (some (.int r))) (wff := fun r => (oX5_firstWrong D h_t h_a1 h_t_paintings h_a1_ruledOut t_length t_paintings_ a1_rows a1_columns a1_paints a1_apart a1_paintsOf0 a1_paintsOf1 a1_old a1_shut a1_all a1_firstColumn a1_fitsAtFirst a1_paintingsOf0 a1_paintingsOf1 a1_ruledOut_ r)) E h rfl rfl dX5_firstWrong_54
        · refine j_aload_n C dX5_firstWrong_55 rfl 1 rfl ?_
          refine j_iload C dX5_firstWrong_56 2 rfl ?_
          refine j_aload_n C dX5_firstWrong_58 rfl 0 rfl ?_
          refine j_get C ibX5 (ci := 4) 0 rfl rfl 0 (by decide) bfX5_9 (v := .ref h_t_paintings) rfl dX5_firstWrong_59 ?_
          refine j_iload C dX5_firstWrong_62 4 rfl ?_
          refine jl_inb h (fun b12 h => ?_)
          refine j_iald C 1 rfl b12 dX5_firstWrong_64 ?_
          obtain ⟨r13, q14, h⟩ := jl_bind h
          refine j_cV1 C (mX3_fittingAfter (jlaunch X) D h_a1 h_a1_ruledOut a1_rows a1_columns a1_paints a1_apart a1_paintsOf0 a1_paintsOf1 a1_old a1_shut a1_all a1_firstColumn a1_fitsAtFirst a1_paintingsOf0 a1_paintingsOf1 a1_ruledOut_ x3 (t_paintings_ x5.toNatClampNeg) r13 q14) bmX5_28 biX3_fittingAfter bsX3_fittingAfter bzX3 bcX3_fittingAfter rfl hX3_fittingAfter (rest := []) rfl (jroom_of rfl) 0 (ci := 2) rfl rfl rfl [2, 3] [0, 1] [0, 1, 2, 3] (wr := [(h_t, .inr (4, [.ref h_t_paintings, .int t_length])), (h_t_paintings, jI D 9 t_paintings_)]) (ws2 := [(h_t, .inr (4, [.ref h_t_paintings, .int t_length])), (h_t_paintings, jI D 9 t_paintings_), (h_a1, .inr (2, [.int a1_rows, .int a1_columns, .int a1_paints, .int a1_apart, .int a1_paintsOf0, .int a1_paintsOf1, .int a1_old, .int a1_shut, .int a1_all, .int a1_firstColumn, .int a1_fitsAtFirst, .int a1_paintingsOf0, .int a1_paintingsOf1, .ref h_a1_ruledOut])), (h_a1_ruledOut, jI D 27 a1_ruledOut_)]) rfl rfl rfl rfl rfl (Nat.le_of_ble_eq_true rfl) dX5_firstWrong_65 ?_
          refine j_istoreC C dX5_firstWrong_68 (lv' := [(4, .int r13), (0, .ref h_t), (1, .ref h_a1), (5, .int x4), (6, .int x5)]) (by decide) rfl ?_
          refine j_iconst C dX5_firstWrong_70 (v := (1 : Int32)) (by decide) ?_
          refine j_iload C dX5_firstWrong_71 3 rfl ?_
          refine j_isub C dX5_firstWrong_73 ?_
          refine j_istore C dX5_firstWrong_74 (lv' := fun v15 => [(5, .int v15), (4, .int r13), (0, .ref h_t), (1, .ref h_a1), (6, .int x5)]) (by decide) (fun _ => rfl) h (fun v15 h => ?_)
          refine j_iinc C dX5_firstWrong_76 4 rfl (lv' := fun v16 => [(6, .int v16), (5, .int v15), (4, .int r13), (0, .ref h_t), (1, .ref h_a1)]) (by decide) (fun _ => rfl) h (fun v16 h => ?_)
          refine j_goto C dX5_firstWrong_79 (tgt := 13) (by decide) ?_
          refine j_sub (lv' := [(0, .ref h_t), (1, .ref h_a1), (4, .int r13), (5, .int v15), (6, .int v16)]) [3, 4, 2, 1, 0] rfl ?_
          exact i13 r13 v15 v16 h
  refine j_aload_n C dX5_firstWrong_0 rfl 1 rfl ?_
  refine j_iload_n C dX5_firstWrong_1 rfl 2 rfl ?_
  obtain ⟨r1, q2, h⟩ := jl_bind h
  refine j_cV1 C (mX3_fitting (jlaunch X) D F h_a1 h_a1_ruledOut a1_rows a1_columns a1_paints a1_apart a1_paintsOf0 a1_paintsOf1 a1_old a1_shut a1_all a1_firstColumn a1_fitsAtFirst a1_paintingsOf0 a1_paintingsOf1 a1_ruledOut_ p2 r1 q2) bmX5_19 biX3_fitting bsX3_fitting bzX3 bcX3_fitting rfl hX3_fitting (rest := []) rfl (jroom_of rfl) 0 (ci := 2) rfl rfl rfl [2, 3] [0, 1] [0, 1, 2, 3] (wr := [(h_t, .inr (4, [.ref h_t_paintings, .int t_length])), (h_t_paintings, jI D 9 t_paintings_)]) (ws2 := [(h_t, .inr (4, [.ref h_t_paintings, .int t_length])), (h_t_paintings, jI D 9 t_paintings_), (h_a1, .inr (2, [.int a1_rows, .int a1_columns, .int a1_paints, .int a1_apart, .int a1_paintsOf0, .int a1_paintsOf1, .int a1_old, .int a1_shut, .int a1_all, .int a1_firstColumn, .int a1_fitsAtFirst, .int a1_paintingsOf0, .int a1_paintingsOf1, .ref h_a1_ruledOut])), (h_a1_ruledOut, jI D 27 a1_ruledOut_)]) rfl rfl rfl rfl rfl (Nat.le_of_ble_eq_true rfl) dX5_firstWrong_2 ?_
  refine j_istoreC C dX5_firstWrong_5 (lv' := [(4, .int r1), (0, .ref h_t), (1, .ref h_a1), (2, .int p2), (3, .int p3)]) (by decide) rfl ?_
  refine j_iload_n C dX5_firstWrong_7 rfl 4 rfl ?_
  refine j_istoreC C dX5_firstWrong_8 (lv' := [(5, .int p3), (4, .int r1), (0, .ref h_t), (1, .ref h_a1), (2, .int p2), (3, .int p3)]) (by decide) rfl ?_
  refine j_iconst C dX5_firstWrong_10 (v := (0 : Int32)) (by decide) ?_
  refine j_istoreC C dX5_firstWrong_11 (lv' := [(6, .int ((0 : Int32))), (5, .int p3), (4, .int r1), (0, .ref h_t), (1, .ref h_a1), (2, .int p2), (3, .int p3)]) (by decide) rfl ?_
  refine j_sub (lv' := [(0, .ref h_t), (1, .ref h_a1), (4, .int r1), (5, .int p3), (6, .int ((0 : Int32)))]) [3, 4, 2, 1, 0] rfl ?_
  exact L13 r1 p3 ((0 : Int32)) h
