theorem dX7_init_0 : decode cX7_init 0 = .ok (.aload_n 0, 1) := by decide +kernel
theorem dX7_init_1 : decode cX7_init 1 = .ok (.invokespecial 3, 3) := by decide +kernel
theorem dX7_init_4 : decode cX7_init 4 = .ok (.aload_n 0, 1) := by decide +kernel
theorem dX7_init_5 : decode cX7_init 5 = .ok (.bipush 8, 2) := by decide +kernel
theorem dX7_init_7 : decode cX7_init 7 = .ok (.newarray .long, 2) := by decide +kernel
theorem dX7_init_9 : decode cX7_init 9 = .ok (.putfield 9, 3) := by decide +kernel
theorem dX7_init_12 : decode cX7_init 12 = .ok (.aload_n 0, 1) := by decide +kernel
theorem dX7_init_13 : decode cX7_init 13 = .ok (.iconst 2, 1) := by decide +kernel
theorem dX7_init_14 : decode cX7_init 14 = .ok (.newarray .long, 2) := by decide +kernel
theorem dX7_init_16 : decode cX7_init 16 = .ok (.putfield 15, 3) := by decide +kernel
theorem dX7_init_19 : decode cX7_init 19 = .ok (.return_, 1) := by decide +kernel
def fX7_init  : Option (Int32 × Int32 × Int64 × Int32 × Int32 × (Nat → Int64) × (Nat → Int64)) :=
(some ((0 : Int32), (0 : Int32), (0 : Int64), (0 : Int32), (0 : Int32), (fun _ => (0 : Int64)), (fun _ => (0 : Int64))))
set_option maxHeartbeats 40000000 in
set_option maxRecDepth 100000 in
theorem mX7_init (l : Launch) (D : jv_D) (h_t : Nat) (r : Int32 × Int32 × Int64 × Int32 × Int32 × (Nat → Int64) × (Nat → Int64)) (h : fX7_init  = some r) : MN l yX7_init (jW yX7_init cX7_init 1 none) ({ frames := 1, cells := 2, slots := 10, locals := 64 }) D [.ref h_t] [(h_t, .inr (6, [.int ((0 : Int32)), .int ((0 : Int32)), .long ((0 : Int64)), .null, .int ((0 : Int32)), .null, .int ((0 : Int32))]))] 2 10 (fun _ : Nat × Nat => none) (fun u : Nat × Nat => [(h_t, .inr (6, [.int r.1, .int r.2.1, .long r.2.2.1, .ref u.1, .int r.2.2.2.1, .ref u.2, .int r.2.2.2.2.1])), (u.1, jJ D 8 r.2.2.2.2.2.1), (u.2, jJ D 2 r.2.2.2.2.2.2)]) := by
  refine mn_of hpX7_init (Nat.le_of_ble_eq_true rfl) ?_
  intro X hXl C E hN
  subst hXl
  replace C : JC D X 1 RX7 cX7_init ({ frames := 1, cells := 2, slots := 10, locals := 64 }) := C
  show JJ D X 1 0 0 0 [(0, .ref h_t)] [] [(h_t, .inr (6, [.int ((0 : Int32)), .int ((0 : Int32)), .long ((0 : Int64)), .null, .int ((0 : Int32)), .null, .int ((0 : Int32))]))]
  unfold fX7_init at h
  refine j_aload_n C dX7_init_0 rfl 0 rfl ?_
  refine j_objInit C bmX7_3 boi boc dX7_init_1 ⟨Nat.le_of_ble_eq_true rfl, Nat.le_of_ble_eq_true rfl⟩ ?_
  refine j_aload_n C dX7_init_4 rfl 0 rfl ?_
  refine j_bipush C dX7_init_5 (v := (8 : Int32)) (by decide) ?_
  refine j_newa C (atype := .long) 1 (ty := .long) rfl (fun _ _ h => h) baa_long rfl (N := 8) (a0 := (8, .inr (.inl (fun _ => (0 : Int64))))) (fun _ => rfl) (by decide) (by decide +kernel) (Nat.le_of_ble_eq_true rfl) ⟨Nat.le_of_ble_eq_true rfl, Nat.le_of_ble_eq_true rfl⟩ dX7_init_7 (fun h1 => ?_)
  show JJ D X 1 (0 + 1) (0 + 8) 9 [(0, .ref h_t)] [.ref h1, .ref h_t] [(h_t, .inr (6, [.int ((0 : Int32)), .int ((0 : Int32)), .long ((0 : Int64)), .null, .int ((0 : Int32)), .null, .int ((0 : Int32))])), (h1, jJ D 8 ((fun _ => (0 : Int64))))]
  refine j_putF C ibX7 tyX7 tyX7_ok nmX7 (hN rfl) (ci := 6) 0 rfl rfl 3 (by decide) bfX7_9 rfl rfl rfl rfl (Nat.le_of_ble_eq_true rfl) dX7_init_9 (ws' := [(h_t, .inr (6, [.int ((0 : Int32)), .int ((0 : Int32)), .long ((0 : Int64)), .ref h1, .int ((0 : Int32)), .null, .int ((0 : Int32))])), (h1, jJ D 8 ((fun _ => (0 : Int64))))]) rfl ?_
  refine j_aload_n C dX7_init_12 rfl 0 rfl ?_
  refine j_iconst C dX7_init_13 (v := (2 : Int32)) (by decide) ?_
  refine j_newa C (atype := .long) 1 (ty := .long) rfl (fun _ _ h => h) baa_long rfl (N := 2) (a0 := (2, .inr (.inl (fun _ => (0 : Int64))))) (fun _ => rfl) (by decide) (by decide +kernel) (Nat.le_of_ble_eq_true rfl) ⟨Nat.le_of_ble_eq_true rfl, Nat.le_of_ble_eq_true rfl⟩ dX7_init_14 (fun h2 => ?_)
  show JJ D X 1 ((0 + 1) + 1) ((0 + 8) + 2) 16 [(0, .ref h_t)] [.ref h2, .ref h_t] [(h_t, .inr (6, [.int ((0 : Int32)), .int ((0 : Int32)), .long ((0 : Int64)), .ref h1, .int ((0 : Int32)), .null, .int ((0 : Int32))])), (h1, jJ D 8 ((fun _ => (0 : Int64)))), (h2, jJ D 2 ((fun _ => (0 : Int64))))]
  refine j_putF C ibX7 tyX7 tyX7_ok nmX7 (hN rfl) (ci := 6) 0 rfl rfl 5 (by decide) bfX7_15 rfl rfl rfl rfl (Nat.le_of_ble_eq_true rfl) dX7_init_16 (ws' := [(h_t, .inr (6, [.int ((0 : Int32)), .int ((0 : Int32)), .long ((0 : Int64)), .ref h1, .int ((0 : Int32)), .ref h2, .int ((0 : Int32))])), (h1, jJ D 8 ((fun _ => (0 : Int64)))), (h2, jJ D 2 ((fun _ => (0 : Int64))))]) rfl ?_
  obtain rfl := jl_some h
  exact j_vret C (E _ _ rfl rfl) (h1, h2) rfl rfl dX7_init_19
theorem dX7_begin_0 : decode cX7_begin 0 = .ok (.aload_n 0, 1) := by decide +kernel
theorem dX7_begin_1 : decode cX7_begin 1 = .ok (.iload_n 1, 1) := by decide +kernel
theorem dX7_begin_2 : decode cX7_begin 2 = .ok (.putfield 18, 3) := by decide +kernel
theorem dX7_begin_5 : decode cX7_begin 5 = .ok (.aload_n 0, 1) := by decide +kernel
theorem dX7_begin_6 : decode cX7_begin 6 = .ok (.iconst 0, 1) := by decide +kernel
theorem dX7_begin_7 : decode cX7_begin 7 = .ok (.putfield 22, 3) := by decide +kernel
theorem dX7_begin_10 : decode cX7_begin 10 = .ok (.aload_n 0, 1) := by decide +kernel
theorem dX7_begin_11 : decode cX7_begin 11 = .ok (.lconst 0, 1) := by decide +kernel
theorem dX7_begin_12 : decode cX7_begin 12 = .ok (.putfield 25, 3) := by decide +kernel
theorem dX7_begin_15 : decode cX7_begin 15 = .ok (.aload_n 0, 1) := by decide +kernel
theorem dX7_begin_16 : decode cX7_begin 16 = .ok (.iconst 0, 1) := by decide +kernel
theorem dX7_begin_17 : decode cX7_begin 17 = .ok (.putfield 29, 3) := by decide +kernel
theorem dX7_begin_20 : decode cX7_begin 20 = .ok (.aload_n 0, 1) := by decide +kernel
theorem dX7_begin_21 : decode cX7_begin 21 = .ok (.iconst 0, 1) := by decide +kernel
theorem dX7_begin_22 : decode cX7_begin 22 = .ok (.putfield 32, 3) := by decide +kernel
theorem dX7_begin_25 : decode cX7_begin 25 = .ok (.return_, 1) := by decide +kernel
def fX7_begin (t_worn : Int32) (t_turn : Int32) (t_order : Int64) (t_pastLength : Int32) (t_heldLength : Int32) (p1 : Int32) : Option (Int32 × Int32 × Int64 × Int32 × Int32) :=
(some (p1, (0 : Int32), (0 : Int64), (0 : Int32), (0 : Int32)))
def oX7_begin (D : jv_D) (h_t : Nat) (h_t_past : Nat) (h_t_held : Nat) (r : Int32 × Int32 × Int64 × Int32 × Int32) : va_W := [(h_t, .inr (6, [.int r.1, .int r.2.1, .long r.2.2.1, .ref h_t_past, .int r.2.2.2.1, .ref h_t_held, .int r.2.2.2.2]))]
set_option maxHeartbeats 40000000 in
set_option maxRecDepth 100000 in
theorem mX7_begin (l : Launch) (D : jv_D) (h_t : Nat) (h_t_past : Nat) (h_t_held : Nat) (t_worn : Int32) (t_turn : Int32) (t_order : Int64) (t_pastLength : Int32) (t_heldLength : Int32) (p1 : Int32) (r : Int32 × Int32 × Int64 × Int32 × Int32) (h : fX7_begin t_worn t_turn t_order t_pastLength t_heldLength p1 = some r) : MM l yX7_begin (jW yX7_begin cX7_begin 2 none) ({ frames := 0, cells := 0, slots := 0, locals := 0 }) D [.ref h_t, .int p1] [(h_t, .inr (6, [.int t_worn, .int t_turn, .long t_order, .ref h_t_past, .int t_pastLength, .ref h_t_held, .int t_heldLength]))] none (oX7_begin D h_t h_t_past h_t_held r) := by
  refine mn_of hpX7_begin (Nat.le_of_ble_eq_true rfl) ?_
  intro X hXl C E0 hN
  subst hXl
  replace C : JC D X 2 RX7 cX7_begin ({ frames := 0, cells := 0, slots := 0, locals := 0 }) := C
  have E : JE D X 0 0 none (fun _ : Unit => none) (fun _ : Unit => (oX7_begin D h_t h_t_past h_t_held r)) := E0 0 0 rfl rfl
  clear E0 hN
  show JJ D X 2 0 0 0 [(0, .ref h_t), (1, .int p1)] [] [(h_t, .inr (6, [.int t_worn, .int t_turn, .long t_order, .ref h_t_past, .int t_pastLength, .ref h_t_held, .int t_heldLength]))]
  unfold fX7_begin at h
  refine j_aload_n C dX7_begin_0 rfl 0 rfl ?_
  refine j_iload_n C dX7_begin_1 rfl 1 rfl ?_
  refine j_put C ibX7 tyX7 tyX7_ok nmX7 (ci := 6) 0 rfl rfl 0 (by decide) bfX7_18 rfl rfl rfl (Nat.le_of_ble_eq_true rfl) dX7_begin_2 (ws' := [(h_t, .inr (6, [.int p1, .int t_turn, .long t_order, .ref h_t_past, .int t_pastLength, .ref h_t_held, .int t_heldLength]))]) rfl ?_
  refine j_aload_n C dX7_begin_5 rfl 0 rfl ?_
  refine j_iconst C dX7_begin_6 (v := (0 : Int32)) (by decide) ?_
  refine j_put C ibX7 tyX7 tyX7_ok nmX7 (ci := 6) 0 rfl rfl 1 (by decide) bfX7_22 rfl rfl rfl (Nat.le_of_ble_eq_true rfl) dX7_begin_7 (ws' := [(h_t, .inr (6, [.int p1, .int ((0 : Int32)), .long t_order, .ref h_t_past, .int t_pastLength, .ref h_t_held, .int t_heldLength]))]) rfl ?_
  refine j_aload_n C dX7_begin_10 rfl 0 rfl ?_
  refine j_lconst C dX7_begin_11 (v := (0 : Int64)) (by decide) ?_
  refine j_put C ibX7 tyX7 tyX7_ok nmX7 (ci := 6) 0 rfl rfl 2 (by decide) bfX7_25 rfl rfl rfl (Nat.le_of_ble_eq_true rfl) dX7_begin_12 (ws' := [(h_t, .inr (6, [.int p1, .int ((0 : Int32)), .long ((0 : Int64)), .ref h_t_past, .int t_pastLength, .ref h_t_held, .int t_heldLength]))]) rfl ?_
  refine j_aload_n C dX7_begin_15 rfl 0 rfl ?_
  refine j_iconst C dX7_begin_16 (v := (0 : Int32)) (by decide) ?_
  refine j_put C ibX7 tyX7 tyX7_ok nmX7 (ci := 6) 0 rfl rfl 4 (by decide) bfX7_29 rfl rfl rfl (Nat.le_of_ble_eq_true rfl) dX7_begin_17 (ws' := [(h_t, .inr (6, [.int p1, .int ((0 : Int32)), .long ((0 : Int64)), .ref h_t_past, .int ((0 : Int32)), .ref h_t_held, .int t_heldLength]))]) rfl ?_
  refine j_aload_n C dX7_begin_20 rfl 0 rfl ?_
  refine j_iconst C dX7_begin_21 (v := (0 : Int32)) (by decide) ?_
  refine j_put C ibX7 tyX7 tyX7_ok nmX7 (ci := 6) 0 rfl rfl 6 (by decide) bfX7_32 rfl rfl rfl (Nat.le_of_ble_eq_true rfl) dX7_begin_22 (ws' := [(h_t, .inr (6, [.int p1, .int ((0 : Int32)), .long ((0 : Int64)), .ref h_t_past, .int ((0 : Int32)), .ref h_t_held, .int ((0 : Int32))]))]) rfl ?_
  exact j_vretR C (r := r) (rtf := fun r => none) (wff := fun r => (oX7_begin D h_t h_t_past h_t_held r)) E h rfl rfl dX7_begin_25
theorem dX7_packed_0 : decode cX7_packed 0 = .ok (.aload_n 0, 1) := by decide +kernel
theorem dX7_packed_1 : decode cX7_packed 1 = .ok (.getfield 25, 3) := by decide +kernel
theorem dX7_packed_4 : decode cX7_packed 4 = .ok (.iconst 1, 1) := by decide +kernel
theorem dX7_packed_5 : decode cX7_packed 5 = .ok (.lshl, 1) := by decide +kernel
theorem dX7_packed_6 : decode cX7_packed 6 = .ok (.aload_n 0, 1) := by decide +kernel
theorem dX7_packed_7 : decode cX7_packed 7 = .ok (.getfield 22, 3) := by decide +kernel
theorem dX7_packed_10 : decode cX7_packed 10 = .ok (.i2l, 1) := by decide +kernel
theorem dX7_packed_11 : decode cX7_packed 11 = .ok (.lor, 1) := by decide +kernel
theorem dX7_packed_12 : decode cX7_packed 12 = .ok (.bipush 27, 2) := by decide +kernel
theorem dX7_packed_14 : decode cX7_packed 14 = .ok (.lshl, 1) := by decide +kernel
theorem dX7_packed_15 : decode cX7_packed 15 = .ok (.aload_n 0, 1) := by decide +kernel
theorem dX7_packed_16 : decode cX7_packed 16 = .ok (.getfield 18, 3) := by decide +kernel
theorem dX7_packed_19 : decode cX7_packed 19 = .ok (.i2l, 1) := by decide +kernel
theorem dX7_packed_20 : decode cX7_packed 20 = .ok (.lor, 1) := by decide +kernel
theorem dX7_packed_21 : decode cX7_packed 21 = .ok (.lreturn, 1) := by decide +kernel
def fX7_packed (t_worn : Int32) (t_turn : Int32) (t_order : Int64) : Option (Int64) :=
(some ((((t_order <<< (((1 : Int32)).toInt64 &&& 63)) ||| t_turn.toInt64) <<< (((27 : Int32)).toInt64 &&& 63)) ||| t_worn.toInt64))
def oX7_packed (D : jv_D) (h_t : Nat) (h_t_past : Nat) (h_t_held : Nat) (t_worn : Int32) (t_turn : Int32) (t_order : Int64) (t_pastLength : Int32) (t_heldLength : Int32) (r : Int64) : va_W := [(h_t, .inr (6, [.int t_worn, .int t_turn, .long t_order, .ref h_t_past, .int t_pastLength, .ref h_t_held, .int t_heldLength]))]
set_option maxHeartbeats 40000000 in
set_option maxRecDepth 100000 in
theorem mX7_packed (l : Launch) (D : jv_D) (h_t : Nat) (h_t_past : Nat) (h_t_held : Nat) (t_worn : Int32) (t_turn : Int32) (t_order : Int64) (t_pastLength : Int32) (t_heldLength : Int32) (r : Int64) (h : fX7_packed t_worn t_turn t_order = some r) : MM l yX7_packed (jW yX7_packed cX7_packed 1 (some .long)) ({ frames := 0, cells := 0, slots := 0, locals := 0 }) D [.ref h_t] [(h_t, .inr (6, [.int t_worn, .int t_turn, .long t_order, .ref h_t_past, .int t_pastLength, .ref h_t_held, .int t_heldLength]))] (some (.long r)) (oX7_packed D h_t h_t_past h_t_held t_worn t_turn t_order t_pastLength t_heldLength r) := by
  refine mn_of hpX7_packed (Nat.le_of_ble_eq_true rfl) ?_
  intro X hXl C E0 hN
  subst hXl
  replace C : JC D X 1 RX7 cX7_packed ({ frames := 0, cells := 0, slots := 0, locals := 0 }) := C
  have E : JE D X 0 0 (some .long) (fun _ : Unit => (some (.long r))) (fun _ : Unit => (oX7_packed D h_t h_t_past h_t_held t_worn t_turn t_order t_pastLength t_heldLength r)) := E0 0 0 rfl rfl
  clear E0 hN
  show JJ D X 1 0 0 0 [(0, .ref h_t)] [] [(h_t, .inr (6, [.int t_worn, .int t_turn, .long t_order, .ref h_t_past, .int t_pastLength, .ref h_t_held, .int t_heldLength]))]
  unfold fX7_packed at h
  refine j_aload_n C dX7_packed_0 rfl 0 rfl ?_
  refine j_get C ibX7 (ci := 6) 0 rfl rfl 2 (by decide) bfX7_25 (v := .long t_order) rfl dX7_packed_1 ?_
  refine j_iconst C dX7_packed_4 (v := (1 : Int32)) (by decide) ?_
  refine j_lshl C dX7_packed_5 ?_
  refine j_aload_n C dX7_packed_6 rfl 0 rfl ?_
  refine j_get C ibX7 (ci := 6) 0 rfl rfl 1 (by decide) bfX7_22 (v := .int t_turn) rfl dX7_packed_7 ?_
  refine j_i2l C dX7_packed_10 ?_
  refine j_lor C dX7_packed_11 ?_
  refine j_bipush C dX7_packed_12 (v := (27 : Int32)) (by decide) ?_
  refine j_lshl C dX7_packed_14 ?_
  refine j_aload_n C dX7_packed_15 rfl 0 rfl ?_
  refine j_get C ibX7 (ci := 6) 0 rfl rfl 0 (by decide) bfX7_18 (v := .int t_worn) rfl dX7_packed_16 ?_
  refine j_i2l C dX7_packed_19 ?_
  refine j_lor C dX7_packed_20 ?_
  exact j_lretR C (r := r) (rtf := fun r => (some (.long r))) (wff := fun r => (oX7_packed D h_t h_t_past h_t_held t_worn t_turn t_order t_pastLength t_heldLength r)) E h rfl rfl dX7_packed_21
theorem dX7_noteForUndo_0 : decode cX7_noteForUndo 0 = .ok (.aload_n 0, 1) := by decide +kernel
theorem dX7_noteForUndo_1 : decode cX7_noteForUndo 1 = .ok (.getfield 29, 3) := by decide +kernel
theorem dX7_noteForUndo_4 : decode cX7_noteForUndo 4 = .ok (.aload_n 0, 1) := by decide +kernel
theorem dX7_noteForUndo_5 : decode cX7_noteForUndo 5 = .ok (.getfield 9, 3) := by decide +kernel
theorem dX7_noteForUndo_8 : decode cX7_noteForUndo 8 = .ok (.arraylength, 1) := by decide +kernel
theorem dX7_noteForUndo_9 : decode cX7_noteForUndo 9 = .ok (.if_icmp .lt 34, 3) := by decide +kernel
theorem dX7_noteForUndo_12 : decode cX7_noteForUndo 12 = .ok (.aload_n 0, 1) := by decide +kernel
theorem dX7_noteForUndo_13 : decode cX7_noteForUndo 13 = .ok (.getfield 9, 3) := by decide +kernel
theorem dX7_noteForUndo_16 : decode cX7_noteForUndo 16 = .ok (.iconst 1, 1) := by decide +kernel
theorem dX7_noteForUndo_17 : decode cX7_noteForUndo 17 = .ok (.aload_n 0, 1) := by decide +kernel
theorem dX7_noteForUndo_18 : decode cX7_noteForUndo 18 = .ok (.getfield 9, 3) := by decide +kernel
theorem dX7_noteForUndo_21 : decode cX7_noteForUndo 21 = .ok (.iconst 0, 1) := by decide +kernel
theorem dX7_noteForUndo_22 : decode cX7_noteForUndo 22 = .ok (.aload_n 0, 1) := by decide +kernel
theorem dX7_noteForUndo_23 : decode cX7_noteForUndo 23 = .ok (.getfield 9, 3) := by decide +kernel
theorem dX7_noteForUndo_26 : decode cX7_noteForUndo 26 = .ok (.arraylength, 1) := by decide +kernel
theorem dX7_noteForUndo_27 : decode cX7_noteForUndo 27 = .ok (.iconst 1, 1) := by decide +kernel
theorem dX7_noteForUndo_28 : decode cX7_noteForUndo 28 = .ok (.isub, 1) := by decide +kernel
theorem dX7_noteForUndo_29 : decode cX7_noteForUndo 29 = .ok (.invokestatic 54, 3) := by decide +kernel
theorem dX7_noteForUndo_32 : decode cX7_noteForUndo 32 = .ok (.aload_n 0, 1) := by decide +kernel
theorem dX7_noteForUndo_33 : decode cX7_noteForUndo 33 = .ok (.aload_n 0, 1) := by decide +kernel
theorem dX7_noteForUndo_34 : decode cX7_noteForUndo 34 = .ok (.getfield 9, 3) := by decide +kernel
theorem dX7_noteForUndo_37 : decode cX7_noteForUndo 37 = .ok (.arraylength, 1) := by decide +kernel
theorem dX7_noteForUndo_38 : decode cX7_noteForUndo 38 = .ok (.iconst 1, 1) := by decide +kernel
theorem dX7_noteForUndo_39 : decode cX7_noteForUndo 39 = .ok (.isub, 1) := by decide +kernel
theorem dX7_noteForUndo_40 : decode cX7_noteForUndo 40 = .ok (.putfield 29, 3) := by decide +kernel
theorem dX7_noteForUndo_43 : decode cX7_noteForUndo 43 = .ok (.aload_n 0, 1) := by decide +kernel
theorem dX7_noteForUndo_44 : decode cX7_noteForUndo 44 = .ok (.getfield 29, 3) := by decide +kernel
theorem dX7_noteForUndo_47 : decode cX7_noteForUndo 47 = .ok (.ifCond .lt 38, 3) := by decide +kernel
theorem dX7_noteForUndo_50 : decode cX7_noteForUndo 50 = .ok (.aload_n 0, 1) := by decide +kernel
theorem dX7_noteForUndo_51 : decode cX7_noteForUndo 51 = .ok (.getfield 29, 3) := by decide +kernel
theorem dX7_noteForUndo_54 : decode cX7_noteForUndo 54 = .ok (.aload_n 0, 1) := by decide +kernel
theorem dX7_noteForUndo_55 : decode cX7_noteForUndo 55 = .ok (.getfield 9, 3) := by decide +kernel
theorem dX7_noteForUndo_58 : decode cX7_noteForUndo 58 = .ok (.arraylength, 1) := by decide +kernel
theorem dX7_noteForUndo_59 : decode cX7_noteForUndo 59 = .ok (.if_icmp .ge 26, 3) := by decide +kernel
theorem dX7_noteForUndo_62 : decode cX7_noteForUndo 62 = .ok (.aload_n 0, 1) := by decide +kernel
theorem dX7_noteForUndo_63 : decode cX7_noteForUndo 63 = .ok (.getfield 9, 3) := by decide +kernel
theorem dX7_noteForUndo_66 : decode cX7_noteForUndo 66 = .ok (.aload_n 0, 1) := by decide +kernel
theorem dX7_noteForUndo_67 : decode cX7_noteForUndo 67 = .ok (.getfield 29, 3) := by decide +kernel
theorem dX7_noteForUndo_70 : decode cX7_noteForUndo 70 = .ok (.aload_n 0, 1) := by decide +kernel
theorem dX7_noteForUndo_71 : decode cX7_noteForUndo 71 = .ok (.invokevirtual 50, 3) := by decide +kernel
theorem dX7_noteForUndo_74 : decode cX7_noteForUndo 74 = .ok (.lastore, 1) := by decide +kernel
theorem dX7_noteForUndo_75 : decode cX7_noteForUndo 75 = .ok (.aload_n 0, 1) := by decide +kernel
theorem dX7_noteForUndo_76 : decode cX7_noteForUndo 76 = .ok (.dup, 1) := by decide +kernel
theorem dX7_noteForUndo_77 : decode cX7_noteForUndo 77 = .ok (.getfield 29, 3) := by decide +kernel
theorem dX7_noteForUndo_80 : decode cX7_noteForUndo 80 = .ok (.iconst 1, 1) := by decide +kernel
theorem dX7_noteForUndo_81 : decode cX7_noteForUndo 81 = .ok (.iadd, 1) := by decide +kernel
theorem dX7_noteForUndo_82 : decode cX7_noteForUndo 82 = .ok (.putfield 29, 3) := by decide +kernel
theorem dX7_noteForUndo_85 : decode cX7_noteForUndo 85 = .ok (.return_, 1) := by decide +kernel
def fX7_noteForUndo_43 (t_worn : Int32) (t_turn : Int32) (t_order : Int64)  (m_t_pastLength_2 : Int32) (m_t_past__3 : Nat → Int64) : Option (Int32 × (Nat → Int64)) :=
(if m_t_pastLength_2 < 0 then
(some (m_t_pastLength_2, m_t_past__3))
else
(if ((8 : Int32)) ≤ m_t_pastLength_2 then
(some (m_t_pastLength_2, m_t_past__3))
else
((fX7_packed t_worn t_turn t_order).bind fun r8 =>
(if m_t_pastLength_2 < 0 ∨ 8 ≤ m_t_pastLength_2.toNatClampNeg then none else
(jl_let (vp_updL m_t_past__3 m_t_pastLength_2.toNatClampNeg r8) fun g11 =>
(jl_let (m_t_pastLength_2 + ((1 : Int32))) fun w12 =>
(some (w12, g11))))))))
def fX7_noteForUndo (t_worn : Int32) (t_turn : Int32) (t_order : Int64) (t_pastLength : Int32) (t_past_ : Nat → Int64) : Option (Int32 × (Nat → Int64)) :=
(if t_pastLength < ((8 : Int32)) then
(fX7_noteForUndo_43 t_worn t_turn t_order t_pastLength t_past_)
else
(jl_let (va_cpy t_past_ t_past_ ((1 : Int32)).toNatClampNeg ((0 : Int32)).toNatClampNeg (((8 : Int32)) - ((1 : Int32))).toNatClampNeg) fun g4 =>
(jl_let (((8 : Int32)) - ((1 : Int32))) fun w5 =>
(fX7_noteForUndo_43 t_worn t_turn t_order w5 g4))))
def oX7_noteForUndo (D : jv_D) (h_t : Nat) (h_t_past : Nat) (h_t_held : Nat) (t_worn : Int32) (t_turn : Int32) (t_order : Int64) (t_heldLength : Int32) (r : Int32 × (Nat → Int64)) : va_W := [(h_t, .inr (6, [.int t_worn, .int t_turn, .long t_order, .ref h_t_past, .int r.1, .ref h_t_held, .int t_heldLength])), (h_t_past, jJ D 8 r.2)]
set_option maxHeartbeats 40000000 in
set_option maxRecDepth 100000 in
theorem mX7_noteForUndo (l : Launch) (D : jv_D) (h_t : Nat) (h_t_past : Nat) (h_t_held : Nat) (t_worn : Int32) (t_turn : Int32) (t_order : Int64) (t_pastLength : Int32) (t_heldLength : Int32) (t_past_ : Nat → Int64) (r : Int32 × (Nat → Int64)) (h : fX7_noteForUndo t_worn t_turn t_order t_pastLength t_past_ = some r) : MM l yX7_noteForUndo (jW yX7_noteForUndo cX7_noteForUndo 1 none) ({ frames := 1, cells := 0, slots := 0, locals := 64 }) D [.ref h_t] [(h_t, .inr (6, [.int t_worn, .int t_turn, .long t_order, .ref h_t_past, .int t_pastLength, .ref h_t_held, .int t_heldLength])), (h_t_past, jJ D 8 t_past_)] none (oX7_noteForUndo D h_t h_t_past h_t_held t_worn t_turn t_order t_heldLength r) := by
  refine mn_of hpX7_noteForUndo (Nat.le_of_ble_eq_true rfl) ?_
  intro X hXl C E0 hN
  subst hXl
  replace C : JC D X 1 RX7 cX7_noteForUndo ({ frames := 1, cells := 0, slots := 0, locals := 64 }) := C
  have E : JE D X 0 0 none (fun _ : Unit => none) (fun _ : Unit => (oX7_noteForUndo D h_t h_t_past h_t_held t_worn t_turn t_order t_heldLength r)) := E0 0 0 rfl rfl
  clear E0 hN
  show JJ D X 1 0 0 0 [(0, .ref h_t)] [] [(h_t, .inr (6, [.int t_worn, .int t_turn, .long t_order, .ref h_t_past, .int t_pastLength, .ref h_t_held, .int t_heldLength])), (h_t_past, jJ D 8 t_past_)]
  unfold fX7_noteForUndo at h
  have L43 : ∀ (m_t_pastLength_2 : Int32) (m_t_past__3 : Nat → Int64), fX7_noteForUndo_43 t_worn t_turn t_order  m_t_pastLength_2 m_t_past__3 = some r → JJ D X 1 0 0 43 [(0, .ref h_t)] [] [(h_t, .inr (6, [.int t_worn, .int t_turn, .long t_order, .ref h_t_past, .int m_t_pastLength_2, .ref h_t_held, .int t_heldLength])), (h_t_past, jJ D 8 m_t_past__3)] := by
    intro m_t_pastLength_2 m_t_past__3 h
    unfold fX7_noteForUndo_43 at h
    refine j_aload_n C dX7_noteForUndo_43 rfl 0 rfl ?_
    refine j_get C ibX7 (ci := 6) 0 rfl rfl 4 (by decide) bfX7_29 (v := .int m_t_pastLength_2) rfl dX7_noteForUndo_44 ?_
    refine j_if_lt C (tgt := 85) dX7_noteForUndo_47 (by decide) h (fun c6 h => ?_) (fun c6 h => ?_)
    · exact j_vretR C (r := r) (rtf := fun r => none) (wff := fun r => (oX7_noteForUndo D h_t h_t_past h_t_held t_worn t_turn t_order t_heldLength r)) E h rfl rfl dX7_noteForUndo_85
    · refine j_aload_n C dX7_noteForUndo_50 rfl 0 rfl ?_
      refine j_get C ibX7 (ci := 6) 0 rfl rfl 4 (by decide) bfX7_29 (v := .int m_t_pastLength_2) rfl dX7_noteForUndo_51 ?_
      refine j_aload_n C dX7_noteForUndo_54 rfl 0 rfl ?_
      refine j_get C ibX7 (ci := 6) 0 rfl rfl 3 (by decide) bfX7_9 (v := .ref h_t_past) rfl dX7_noteForUndo_55 ?_
      refine j_llen C 1 rfl (v := (8 : Int32)) (by decide) dX7_noteForUndo_58 ?_
      refine j_icmp_ge C (tgt := 85) dX7_noteForUndo_59 (by decide) h (fun c7 h => ?_) (fun c7 h => ?_)
      · exact j_vretR C (r := r) (rtf := fun r => none) (wff := fun r => (oX7_noteForUndo D h_t h_t_past h_t_held t_worn t_turn t_order t_heldLength r)) E h rfl rfl dX7_noteForUndo_85
      · refine j_aload_n C dX7_noteForUndo_62 rfl 0 rfl ?_
        refine j_get C ibX7 (ci := 6) 0 rfl rfl 3 (by decide) bfX7_9 (v := .ref h_t_past) rfl dX7_noteForUndo_63 ?_
        refine j_aload_n C dX7_noteForUndo_66 rfl 0 rfl ?_
        refine j_get C ibX7 (ci := 6) 0 rfl rfl 4 (by decide) bfX7_29 (v := .int m_t_pastLength_2) rfl dX7_noteForUndo_67 ?_
        refine j_aload_n C dX7_noteForUndo_70 rfl 0 rfl ?_
        obtain ⟨r8, q9, h⟩ := jl_bind h
        refine j_cV1 C (mX7_packed (jlaunch X) D h_t h_t_past h_t_held t_worn t_turn t_order m_t_pastLength_2 t_heldLength r8 q9) bmX7_50 biX7_packed bsX7_packed bzX7 bcX7_packed rfl hX7_packed (rest := [.int m_t_pastLength_2, .ref h_t_past]) rfl (jroom_of rfl) 0 (ci := 6) rfl rfl rfl [0] [1] [1, 0] (wr := [(h_t_past, jJ D 8 m_t_past__3)]) (ws2 := [(h_t, .inr (6, [.int t_worn, .int t_turn, .long t_order, .ref h_t_past, .int m_t_pastLength_2, .ref h_t_held, .int t_heldLength])), (h_t_past, jJ D 8 m_t_past__3)]) rfl rfl rfl rfl rfl (Nat.le_of_ble_eq_true rfl) dX7_noteForUndo_71 ?_
        refine jl_inb h (fun b10 h => ?_)
        refine j_last C 1 rfl b10 dX7_noteForUndo_74 (ws' := fun g11 => [(h_t, .inr (6, [.int t_worn, .int t_turn, .long t_order, .ref h_t_past, .int m_t_pastLength_2, .ref h_t_held, .int t_heldLength])), (h_t_past, jJ D 8 g11)]) (fun _ => rfl) h (fun g11 h => ?_)
        refine j_aload_n C dX7_noteForUndo_75 rfl 0 rfl ?_
        refine j_dup C dX7_noteForUndo_76 rfl ?_
        refine j_get C ibX7 (ci := 6) 0 rfl rfl 4 (by decide) bfX7_29 (v := .int m_t_pastLength_2) rfl dX7_noteForUndo_77 ?_
        refine j_iconst C dX7_noteForUndo_80 (v := (1 : Int32)) (by decide) ?_
        refine j_iadd C dX7_noteForUndo_81 ?_
        refine j_nmi h (fun w12 h => ?_)
        refine j_put C ibX7 tyX7 tyX7_ok nmX7 (ci := 6) 0 rfl rfl 4 (by decide) bfX7_29 rfl rfl rfl (Nat.le_of_ble_eq_true rfl) dX7_noteForUndo_82 (ws' := [(h_t, .inr (6, [.int t_worn, .int t_turn, .long t_order, .ref h_t_past, .int w12, .ref h_t_held, .int t_heldLength])), (h_t_past, jJ D 8 g11)]) rfl ?_
        exact j_vretR C (r := r) (rtf := fun r => none) (wff := fun r => (oX7_noteForUndo D h_t h_t_past h_t_held t_worn t_turn t_order t_heldLength r)) E h rfl rfl dX7_noteForUndo_85
  refine j_aload_n C dX7_noteForUndo_0 rfl 0 rfl ?_
  refine j_get C ibX7 (ci := 6) 0 rfl rfl 4 (by decide) bfX7_29 (v := .int t_pastLength) rfl dX7_noteForUndo_1 ?_
  refine j_aload_n C dX7_noteForUndo_4 rfl 0 rfl ?_
  refine j_get C ibX7 (ci := 6) 0 rfl rfl 3 (by decide) bfX7_9 (v := .ref h_t_past) rfl dX7_noteForUndo_5 ?_
  refine j_llen C 1 rfl (v := (8 : Int32)) (by decide) dX7_noteForUndo_8 ?_
  refine j_icmp_lt C (tgt := 43) dX7_noteForUndo_9 (by decide) h (fun c1 h => ?_) (fun c1 h => ?_)
  · refine j_sub (lv' := [(0, .ref h_t)]) [0] rfl ?_
    exact L43 t_pastLength t_past_ h
  · refine j_aload_n C dX7_noteForUndo_12 rfl 0 rfl ?_
    refine j_get C ibX7 (ci := 6) 0 rfl rfl 3 (by decide) bfX7_9 (v := .ref h_t_past) rfl dX7_noteForUndo_13 ?_
    refine j_iconst C dX7_noteForUndo_16 (v := (1 : Int32)) (by decide) ?_
    refine j_aload_n C dX7_noteForUndo_17 rfl 0 rfl ?_
    refine j_get C ibX7 (ci := 6) 0 rfl rfl 3 (by decide) bfX7_9 (v := .ref h_t_past) rfl dX7_noteForUndo_18 ?_
    refine j_iconst C dX7_noteForUndo_21 (v := (0 : Int32)) (by decide) ?_
    refine j_aload_n C dX7_noteForUndo_22 rfl 0 rfl ?_
    refine j_get C ibX7 (ci := 6) 0 rfl rfl 3 (by decide) bfX7_9 (v := .ref h_t_past) rfl dX7_noteForUndo_23 ?_
    refine j_llen C 1 rfl (v := (8 : Int32)) (by decide) dX7_noteForUndo_26 ?_
    refine j_iconst C dX7_noteForUndo_27 (v := (1 : Int32)) (by decide) ?_
    refine j_isub C dX7_noteForUndo_28 ?_
    refine j_copyl C bmX7_54 bac_n bac_s bac_i 1 rfl (by decide) (by decide) (by decide) (by decide) (by decide) ⟨Nat.le_of_ble_eq_true rfl, by decide +kernel⟩ dX7_noteForUndo_29 (ws' := fun g4 => [(h_t, .inr (6, [.int t_worn, .int t_turn, .long t_order, .ref h_t_past, .int t_pastLength, .ref h_t_held, .int t_heldLength])), (h_t_past, jJ D 8 g4)]) (fun _ => rfl) h (fun g4 h => ?_)
    refine j_aload_n C dX7_noteForUndo_32 rfl 0 rfl ?_
    refine j_aload_n C dX7_noteForUndo_33 rfl 0 rfl ?_
    refine j_get C ibX7 (ci := 6) 0 rfl rfl 3 (by decide) bfX7_9 (v := .ref h_t_past) rfl dX7_noteForUndo_34 ?_
    refine j_llen C 1 rfl (v := (8 : Int32)) (by decide) dX7_noteForUndo_37 ?_
    refine j_iconst C dX7_noteForUndo_38 (v := (1 : Int32)) (by decide) ?_
    refine j_isub C dX7_noteForUndo_39 ?_
    refine j_nmi h (fun w5 h => ?_)
    refine j_put C ibX7 tyX7 tyX7_ok nmX7 (ci := 6) 0 rfl rfl 4 (by decide) bfX7_29 rfl rfl rfl (Nat.le_of_ble_eq_true rfl) dX7_noteForUndo_40 (ws' := [(h_t, .inr (6, [.int t_worn, .int t_turn, .long t_order, .ref h_t_past, .int w5, .ref h_t_held, .int t_heldLength])), (h_t_past, jJ D 8 g4)]) rfl ?_
    refine j_sub (lv' := [(0, .ref h_t)]) [0] rfl ?_
    exact L43 w5 g4 h
theorem dX7_put_0 : decode cX7_put 0 = .ok (.aload_n 0, 1) := by decide +kernel
theorem dX7_put_1 : decode cX7_put 1 = .ok (.invokevirtual 35, 3) := by decide +kernel
theorem dX7_put_4 : decode cX7_put 4 = .ok (.aload_n 0, 1) := by decide +kernel
theorem dX7_put_5 : decode cX7_put 5 = .ok (.dup, 1) := by decide +kernel
theorem dX7_put_6 : decode cX7_put 6 = .ok (.getfield 18, 3) := by decide +kernel
theorem dX7_put_9 : decode cX7_put 9 = .ok (.iload_n 2, 1) := by decide +kernel
theorem dX7_put_10 : decode cX7_put 10 = .ok (.ior, 1) := by decide +kernel
theorem dX7_put_11 : decode cX7_put 11 = .ok (.putfield 18, 3) := by decide +kernel
theorem dX7_put_14 : decode cX7_put 14 = .ok (.aload_n 0, 1) := by decide +kernel
theorem dX7_put_15 : decode cX7_put 15 = .ok (.aload_n 0, 1) := by decide +kernel
theorem dX7_put_16 : decode cX7_put 16 = .ok (.getfield 25, 3) := by decide +kernel
theorem dX7_put_19 : decode cX7_put 19 = .ok (.iconst 4, 1) := by decide +kernel
theorem dX7_put_20 : decode cX7_put 20 = .ok (.lshl, 1) := by decide +kernel
theorem dX7_put_21 : decode cX7_put 21 = .ok (.iload_n 1, 1) := by decide +kernel
theorem dX7_put_22 : decode cX7_put 22 = .ok (.i2l, 1) := by decide +kernel
theorem dX7_put_23 : decode cX7_put 23 = .ok (.lor, 1) := by decide +kernel
theorem dX7_put_24 : decode cX7_put 24 = .ok (.putfield 25, 3) := by decide +kernel
theorem dX7_put_27 : decode cX7_put 27 = .ok (.aload_n 0, 1) := by decide +kernel
theorem dX7_put_28 : decode cX7_put 28 = .ok (.iconst 1, 1) := by decide +kernel
theorem dX7_put_29 : decode cX7_put 29 = .ok (.aload_n 0, 1) := by decide +kernel
theorem dX7_put_30 : decode cX7_put 30 = .ok (.getfield 22, 3) := by decide +kernel
theorem dX7_put_33 : decode cX7_put 33 = .ok (.isub, 1) := by decide +kernel
theorem dX7_put_34 : decode cX7_put 34 = .ok (.putfield 22, 3) := by decide +kernel
theorem dX7_put_37 : decode cX7_put 37 = .ok (.return_, 1) := by decide +kernel
def fX7_put (t_worn : Int32) (t_turn : Int32) (t_order : Int64) (t_pastLength : Int32) (t_past_ : Nat → Int64) (p1 : Int32) (p2 : Int32) : Option (Int32 × Int32 × Int64 × Int32 × (Nat → Int64)) :=
((fX7_noteForUndo t_worn t_turn t_order t_pastLength t_past_).bind fun r1 =>
(jl_let (t_worn ||| p2) fun w3 =>
(jl_let ((t_order <<< (((4 : Int32)).toInt64 &&& 63)) ||| p1.toInt64) fun w4 =>
(jl_let (((1 : Int32)) - t_turn) fun w5 =>
(some (w3, w5, w4, r1.1, r1.2))))))
def oX7_put (D : jv_D) (h_t : Nat) (h_t_past : Nat) (h_t_held : Nat) (t_heldLength : Int32) (r : Int32 × Int32 × Int64 × Int32 × (Nat → Int64)) : va_W := [(h_t, .inr (6, [.int r.1, .int r.2.1, .long r.2.2.1, .ref h_t_past, .int r.2.2.2.1, .ref h_t_held, .int t_heldLength])), (h_t_past, jJ D 8 r.2.2.2.2)]
set_option maxHeartbeats 40000000 in
set_option maxRecDepth 100000 in
theorem mX7_put (l : Launch) (D : jv_D) (h_t : Nat) (h_t_past : Nat) (h_t_held : Nat) (t_worn : Int32) (t_turn : Int32) (t_order : Int64) (t_pastLength : Int32) (t_heldLength : Int32) (t_past_ : Nat → Int64) (p1 : Int32) (p2 : Int32) (r : Int32 × Int32 × Int64 × Int32 × (Nat → Int64)) (h : fX7_put t_worn t_turn t_order t_pastLength t_past_ p1 p2 = some r) : MM l yX7_put (jW yX7_put cX7_put 3 none) ({ frames := 2, cells := 0, slots := 0, locals := 84 }) D [.ref h_t, .int p1, .int p2] [(h_t, .inr (6, [.int t_worn, .int t_turn, .long t_order, .ref h_t_past, .int t_pastLength, .ref h_t_held, .int t_heldLength])), (h_t_past, jJ D 8 t_past_)] none (oX7_put D h_t h_t_past h_t_held t_heldLength r) := by
  refine mn_of hpX7_put (Nat.le_of_ble_eq_true rfl) ?_
  intro X hXl C E0 hN
  subst hXl
  replace C : JC D X 3 RX7 cX7_put ({ frames := 2, cells := 0, slots := 0, locals := 84 }) := C
  have E : JE D X 0 0 none (fun _ : Unit => none) (fun _ : Unit => (oX7_put D h_t h_t_past h_t_held t_heldLength r)) := E0 0 0 rfl rfl
  clear E0 hN
  show JJ D X 3 0 0 0 [(0, .ref h_t), (1, .int p1), (2, .int p2)] [] [(h_t, .inr (6, [.int t_worn, .int t_turn, .long t_order, .ref h_t_past, .int t_pastLength, .ref h_t_held, .int t_heldLength])), (h_t_past, jJ D 8 t_past_)]
  unfold fX7_put at h
  refine j_aload_n C dX7_put_0 rfl 0 rfl ?_
  obtain ⟨r1, q2, h⟩ := jl_bind h
  refine j_cV0 C (mX7_noteForUndo (jlaunch X) D h_t h_t_past h_t_held t_worn t_turn t_order t_pastLength t_heldLength t_past_ r1 q2) bmX7_35 biX7_noteForUndo bsX7_noteForUndo bzX7 bcX7_noteForUndo rfl hX7_noteForUndo (rest := []) rfl (jroom_of rfl) 0 (ci := 6) rfl rfl rfl [0, 1] [] [0, 1] (wr := []) (ws2 := [(h_t, .inr (6, [.int t_worn, .int t_turn, .long t_order, .ref h_t_past, .int r1.1, .ref h_t_held, .int t_heldLength])), (h_t_past, jJ D 8 r1.2)]) rfl rfl rfl rfl rfl (Nat.le_of_ble_eq_true rfl) dX7_put_1 ?_
  refine j_aload_n C dX7_put_4 rfl 0 rfl ?_
  refine j_dup C dX7_put_5 rfl ?_
  refine j_get C ibX7 (ci := 6) 0 rfl rfl 0 (by decide) bfX7_18 (v := .int t_worn) rfl dX7_put_6 ?_
  refine j_iload_n C dX7_put_9 rfl 2 rfl ?_
  refine j_ior C dX7_put_10 ?_
  refine j_nmi h (fun w3 h => ?_)
  refine j_put C ibX7 tyX7 tyX7_ok nmX7 (ci := 6) 0 rfl rfl 0 (by decide) bfX7_18 rfl rfl rfl (Nat.le_of_ble_eq_true rfl) dX7_put_11 (ws' := [(h_t, .inr (6, [.int w3, .int t_turn, .long t_order, .ref h_t_past, .int r1.1, .ref h_t_held, .int t_heldLength])), (h_t_past, jJ D 8 r1.2)]) rfl ?_
  refine j_aload_n C dX7_put_14 rfl 0 rfl ?_
  refine j_aload_n C dX7_put_15 rfl 0 rfl ?_
  refine j_get C ibX7 (ci := 6) 0 rfl rfl 2 (by decide) bfX7_25 (v := .long t_order) rfl dX7_put_16 ?_
  refine j_iconst C dX7_put_19 (v := (4 : Int32)) (by decide) ?_
  refine j_lshl C dX7_put_20 ?_
  refine j_iload_n C dX7_put_21 rfl 1 rfl ?_
  refine j_i2l C dX7_put_22 ?_
  refine j_lor C dX7_put_23 ?_
  refine j_nml h (fun w4 h => ?_)
  refine j_put C ibX7 tyX7 tyX7_ok nmX7 (ci := 6) 0 rfl rfl 2 (by decide) bfX7_25 rfl rfl rfl (Nat.le_of_ble_eq_true rfl) dX7_put_24 (ws' := [(h_t, .inr (6, [.int w3, .int t_turn, .long w4, .ref h_t_past, .int r1.1, .ref h_t_held, .int t_heldLength])), (h_t_past, jJ D 8 r1.2)]) rfl ?_
  refine j_aload_n C dX7_put_27 rfl 0 rfl ?_
  refine j_iconst C dX7_put_28 (v := (1 : Int32)) (by decide) ?_
  refine j_aload_n C dX7_put_29 rfl 0 rfl ?_
  refine j_get C ibX7 (ci := 6) 0 rfl rfl 1 (by decide) bfX7_22 (v := .int t_turn) rfl dX7_put_30 ?_
  refine j_isub C dX7_put_33 ?_
  refine j_nmi h (fun w5 h => ?_)
  refine j_put C ibX7 tyX7 tyX7_ok nmX7 (ci := 6) 0 rfl rfl 1 (by decide) bfX7_22 rfl rfl rfl (Nat.le_of_ble_eq_true rfl) dX7_put_34 (ws' := [(h_t, .inr (6, [.int w3, .int w5, .long w4, .ref h_t_past, .int r1.1, .ref h_t_held, .int t_heldLength])), (h_t_past, jJ D 8 r1.2)]) rfl ?_
  exact j_vretR C (r := r) (rtf := fun r => none) (wff := fun r => (oX7_put D h_t h_t_past h_t_held t_heldLength r)) E h rfl rfl dX7_put_37
theorem dX7_washOff_0 : decode cX7_washOff 0 = .ok (.aload_n 0, 1) := by decide +kernel
theorem dX7_washOff_1 : decode cX7_washOff 1 = .ok (.invokevirtual 35, 3) := by decide +kernel
theorem dX7_washOff_4 : decode cX7_washOff 4 = .ok (.iconst 0, 1) := by decide +kernel
theorem dX7_washOff_5 : decode cX7_washOff 5 = .ok (.istore_n 2, 1) := by decide +kernel
theorem dX7_washOff_6 : decode cX7_washOff 6 = .ok (.iload_n 2, 1) := by decide +kernel
theorem dX7_washOff_7 : decode cX7_washOff 7 = .ok (.bipush 9, 2) := by decide +kernel
theorem dX7_washOff_9 : decode cX7_washOff 9 = .ok (.if_icmp .ge 48, 3) := by decide +kernel
theorem dX7_washOff_12 : decode cX7_washOff 12 = .ok (.iload_n 2, 1) := by decide +kernel
theorem dX7_washOff_13 : decode cX7_washOff 13 = .ok (.iload_n 1, 1) := by decide +kernel
theorem dX7_washOff_14 : decode cX7_washOff 14 = .ok (.if_icmp .ge 43, 3) := by decide +kernel
theorem dX7_washOff_17 : decode cX7_washOff 17 = .ok (.aload_n 0, 1) := by decide +kernel
theorem dX7_washOff_18 : decode cX7_washOff 18 = .ok (.getfield 25, 3) := by decide +kernel
theorem dX7_washOff_21 : decode cX7_washOff 21 = .ok (.ldc2_w 38, 3) := by decide +kernel
theorem dX7_washOff_24 : decode cX7_washOff 24 = .ok (.land, 1) := by decide +kernel
theorem dX7_washOff_25 : decode cX7_washOff 25 = .ok (.l2i, 1) := by decide +kernel
theorem dX7_washOff_26 : decode cX7_washOff 26 = .ok (.istore_n 3, 1) := by decide +kernel
theorem dX7_washOff_27 : decode cX7_washOff 27 = .ok (.aload_n 0, 1) := by decide +kernel
theorem dX7_washOff_28 : decode cX7_washOff 28 = .ok (.aload_n 0, 1) := by decide +kernel
theorem dX7_washOff_29 : decode cX7_washOff 29 = .ok (.getfield 18, 3) := by decide +kernel
theorem dX7_washOff_32 : decode cX7_washOff 32 = .ok (.iconst 1, 1) := by decide +kernel
theorem dX7_washOff_33 : decode cX7_washOff 33 = .ok (.iload_n 3, 1) := by decide +kernel
theorem dX7_washOff_34 : decode cX7_washOff 34 = .ok (.ishl, 1) := by decide +kernel
theorem dX7_washOff_35 : decode cX7_washOff 35 = .ok (.invokestatic 40, 3) := by decide +kernel
theorem dX7_washOff_38 : decode cX7_washOff 38 = .ok (.putfield 18, 3) := by decide +kernel
theorem dX7_washOff_41 : decode cX7_washOff 41 = .ok (.aload_n 0, 1) := by decide +kernel
theorem dX7_washOff_42 : decode cX7_washOff 42 = .ok (.dup, 1) := by decide +kernel
theorem dX7_washOff_43 : decode cX7_washOff 43 = .ok (.getfield 25, 3) := by decide +kernel
theorem dX7_washOff_46 : decode cX7_washOff 46 = .ok (.iconst 4, 1) := by decide +kernel
theorem dX7_washOff_47 : decode cX7_washOff 47 = .ok (.lushr, 1) := by decide +kernel
theorem dX7_washOff_48 : decode cX7_washOff 48 = .ok (.putfield 25, 3) := by decide +kernel
theorem dX7_washOff_51 : decode cX7_washOff 51 = .ok (.iinc 2 1, 3) := by decide +kernel
theorem dX7_washOff_54 : decode cX7_washOff 54 = .ok (.goto (-48), 3) := by decide +kernel
theorem dX7_washOff_57 : decode cX7_washOff 57 = .ok (.return_, 1) := by decide +kernel
def bX7_washOff_6 (F : Nat) (t_turn : Int32) (p1 : Int32)  (k6 : Int32 → Int32 → Int64 → Int32 → (Nat → Int64) → Option (Int32 × Int64 × Int32 × (Nat → Int64))) (x3 : Int32) (m_t_worn_4 : Int32) (m_t_order_5 : Int64) (m_t_pastLength_6 : Int32) (m_t_past__7 : Nat → Int64) : Option (Int32 × Int64 × Int32 × (Nat → Int64)) :=
(if ((9 : Int32)) ≤ x3 then
(some (m_t_worn_4, m_t_order_5, m_t_pastLength_6, m_t_past__7))
else
(if p1 ≤ x3 then
(some (m_t_worn_4, m_t_order_5, m_t_pastLength_6, m_t_past__7))
else
(jl_let ((m_t_order_5 &&& ((15 : Int64))).toInt32) fun v10 =>
((fX3_withoutPaint m_t_worn_4 (((1 : Int32)) <<< (v10 &&& 31))).bind fun r11 =>
(jl_let ((m_t_order_5.toUInt64 >>> (((4 : Int32)).toInt64.toUInt64 &&& Int64.toUInt64 63)).toInt64) fun w13 =>
(jl_let (x3 + Int32.ofInt (1)) fun v14 =>
(k6 v14 r11 w13 m_t_pastLength_6 m_t_past__7)))))))
def lX7_washOff_6 (F : Nat) (t_turn : Int32) (p1 : Int32)  (F2 : Nat) (x3 : Int32) (m_t_worn_4 : Int32) (m_t_order_5 : Int64) (m_t_pastLength_6 : Int32) (m_t_past__7 : Nat → Int64) : Option (Int32 × Int64 × Int32 × (Nat → Int64)) := jl_loop5 (bX7_washOff_6 F t_turn p1 ) F2 x3 m_t_worn_4 m_t_order_5 m_t_pastLength_6 m_t_past__7
def fX7_washOff (F : Nat) (t_worn : Int32) (t_turn : Int32) (t_order : Int64) (t_pastLength : Int32) (t_past_ : Nat → Int64) (p1 : Int32) : Option (Int32 × Int64 × Int32 × (Nat → Int64)) :=
((fX7_noteForUndo t_worn t_turn t_order t_pastLength t_past_).bind fun r1 =>
(lX7_washOff_6 F t_turn p1 F ((0 : Int32)) t_worn t_order r1.1 r1.2))
def oX7_washOff (D : jv_D) (h_t : Nat) (h_t_past : Nat) (h_t_held : Nat) (t_turn : Int32) (t_heldLength : Int32) (r : Int32 × Int64 × Int32 × (Nat → Int64)) : va_W := [(h_t, .inr (6, [.int r.1, .int t_turn, .long r.2.1, .ref h_t_past, .int r.2.2.1, .ref h_t_held, .int t_heldLength])), (h_t_past, jJ D 8 r.2.2.2)]
set_option maxHeartbeats 40000000 in
set_option maxRecDepth 100000 in
theorem mX7_washOff (l : Launch) (D : jv_D) (F : Nat) (h_t : Nat) (h_t_past : Nat) (h_t_held : Nat) (t_worn : Int32) (t_turn : Int32) (t_order : Int64) (t_pastLength : Int32) (t_heldLength : Int32) (t_past_ : Nat → Int64) (p1 : Int32) (r : Int32 × Int64 × Int32 × (Nat → Int64)) (h : fX7_washOff F t_worn t_turn t_order t_pastLength t_past_ p1 = some r) : MM l yX7_washOff (jW yX7_washOff cX7_washOff 4 none) ({ frames := 2, cells := 0, slots := 0, locals := 84 }) D [.ref h_t, .int p1] [(h_t, .inr (6, [.int t_worn, .int t_turn, .long t_order, .ref h_t_past, .int t_pastLength, .ref h_t_held, .int t_heldLength])), (h_t_past, jJ D 8 t_past_)] none (oX7_washOff D h_t h_t_past h_t_held t_turn t_heldLength r) := by
  refine mn_of hpX7_washOff (Nat.le_of_ble_eq_true rfl) ?_
  intro X hXl C E0 hN
  subst hXl
  replace C : JC D X 4 RX7 cX7_washOff ({ frames := 2, cells := 0, slots := 0, locals := 84 }) := C
  have E : JE D X 0 0 none (fun _ : Unit => none) (fun _ : Unit => (oX7_washOff D h_t h_t_past h_t_held t_turn t_heldLength r)) := E0 0 0 rfl rfl
  clear E0 hN
  show JJ D X 4 0 0 0 [(0, .ref h_t), (1, .int p1)] [] [(h_t, .inr (6, [.int t_worn, .int t_turn, .long t_order, .ref h_t_past, .int t_pastLength, .ref h_t_held, .int t_heldLength])), (h_t_past, jJ D 8 t_past_)]
  unfold fX7_washOff at h
  have L6 : ∀ (x3 : Int32) (m_t_worn_4 : Int32) (m_t_order_5 : Int64) (m_t_pastLength_6 : Int32) (m_t_past__7 : Nat → Int64), lX7_washOff_6 F t_turn p1  F x3 m_t_worn_4 m_t_order_5 m_t_pastLength_6 m_t_past__7 = some r → JJ D X 4 0 0 6 [(0, .ref h_t), (1, .int p1), (2, .int x3)] [] [(h_t, .inr (6, [.int m_t_worn_4, .int t_turn, .long m_t_order_5, .ref h_t_past, .int m_t_pastLength_6, .ref h_t_held, .int t_heldLength])), (h_t_past, jJ D 8 m_t_past__7)] := by
    intro x3 m_t_worn_4 m_t_order_5 m_t_pastLength_6 m_t_past__7 h
    refine jl_ind5 (fun x3 m_t_worn_4 m_t_order_5 m_t_pastLength_6 m_t_past__7 => JJ D X 4 0 0 6 [(0, .ref h_t), (1, .int p1), (2, .int x3)] [] [(h_t, .inr (6, [.int m_t_worn_4, .int t_turn, .long m_t_order_5, .ref h_t_past, .int m_t_pastLength_6, .ref h_t_held, .int t_heldLength])), (h_t_past, jJ D 8 m_t_past__7)]) ?_ F x3 m_t_worn_4 m_t_order_5 m_t_pastLength_6 m_t_past__7 h
    clear h x3 m_t_worn_4 m_t_order_5 m_t_pastLength_6 m_t_past__7
    intro k6 i6 x3 m_t_worn_4 m_t_order_5 m_t_pastLength_6 m_t_past__7 h
    replace i6 : ∀ (x3 : Int32) (m_t_worn_4 : Int32) (m_t_order_5 : Int64) (m_t_pastLength_6 : Int32) (m_t_past__7 : Nat → Int64), k6 x3 m_t_worn_4 m_t_order_5 m_t_pastLength_6 m_t_past__7 = some r → JJ D X 4 0 0 6 [(0, .ref h_t), (1, .int p1), (2, .int x3)] [] [(h_t, .inr (6, [.int m_t_worn_4, .int t_turn, .long m_t_order_5, .ref h_t_past, .int m_t_pastLength_6, .ref h_t_held, .int t_heldLength])), (h_t_past, jJ D 8 m_t_past__7)] := i6
    show JJ D X 4 0 0 6 [(0, .ref h_t), (1, .int p1), (2, .int x3)] [] [(h_t, .inr (6, [.int m_t_worn_4, .int t_turn, .long m_t_order_5, .ref h_t_past, .int m_t_pastLength_6, .ref h_t_held, .int t_heldLength])), (h_t_past, jJ D 8 m_t_past__7)]
    unfold bX7_washOff_6 at h
    refine j_iload_n C dX7_washOff_6 rfl 2 rfl ?_
    refine j_bipush C dX7_washOff_7 (v := (9 : Int32)) (by decide) ?_
    refine j_icmp_ge C (tgt := 57) dX7_washOff_9 (by decide) h (fun c8 h => ?_) (fun c8 h => ?_)
    · exact j_vretR C (r := r) (rtf := fun r => none) (wff := fun r => (oX7_washOff D h_t h_t_past h_t_held t_turn t_heldLength r)) E h rfl rfl dX7_washOff_57
    · refine j_iload_n C dX7_washOff_12 rfl 2 rfl ?_
      refine j_iload_n C dX7_washOff_13 rfl 1 rfl ?_
      refine j_icmp_ge C (tgt := 57) dX7_washOff_14 (by decide) h (fun c9 h => ?_) (fun c9 h => ?_)
      · exact j_vretR C (r := r) (rtf := fun r => none) (wff := fun r => (oX7_washOff D h_t h_t_past h_t_held t_turn t_heldLength r)) E h rfl rfl dX7_washOff_57
      · refine j_aload_n C dX7_washOff_17 rfl 0 rfl ?_
        refine j_get C ibX7 (ci := 6) 0 rfl rfl 2 (by decide) bfX7_25 (v := .long m_t_order_5) rfl dX7_washOff_18 ?_
        refine j_ldc2_w C bKX7_38 dX7_washOff_21 ?_
        refine j_land C dX7_washOff_24 ?_
        refine j_l2i C dX7_washOff_25 ?_
        refine j_istore_n C dX7_washOff_26 rfl (lv' := fun v10 => [(3, .int v10), (0, .ref h_t), (1, .int p1), (2, .int x3)]) (by decide) (fun _ => rfl) h (fun v10 h => ?_)
        refine j_aload_n C dX7_washOff_27 rfl 1 rfl ?_
        refine j_aload_n C dX7_washOff_28 rfl 1 rfl ?_
        refine j_get C ibX7 (ci := 6) 0 rfl rfl 0 (by decide) bfX7_18 (v := .int m_t_worn_4) rfl dX7_washOff_29 ?_
        refine j_iconst C dX7_washOff_32 (v := (1 : Int32)) (by decide) ?_
        refine j_iload_n C dX7_washOff_33 rfl 0 rfl ?_
        refine j_ishl C dX7_washOff_34 ?_
        obtain ⟨r11, q12, h⟩ := jl_bind h
        refine j_cS1 C (mX3_withoutPaint (jlaunch X) D m_t_worn_4 (((1 : Int32)) <<< (v10 &&& 31)) r11 q12) bmX7_40 btX3_withoutPaint bzX3 bcX3_withoutPaint hX3_withoutPaint (rest := [.ref h_t]) rfl (jroom_of rfl) [] [0, 1] [0, 1] (wr := [(h_t, .inr (6, [.int m_t_worn_4, .int t_turn, .long m_t_order_5, .ref h_t_past, .int m_t_pastLength_6, .ref h_t_held, .int t_heldLength])), (h_t_past, jJ D 8 m_t_past__7)]) (ws2 := [(h_t, .inr (6, [.int m_t_worn_4, .int t_turn, .long m_t_order_5, .ref h_t_past, .int m_t_pastLength_6, .ref h_t_held, .int t_heldLength])), (h_t_past, jJ D 8 m_t_past__7)]) rfl rfl rfl rfl rfl (Nat.le_of_ble_eq_true rfl) dX7_washOff_35 ?_
        refine j_put C ibX7 tyX7 tyX7_ok nmX7 (ci := 6) 0 rfl rfl 0 (by decide) bfX7_18 rfl rfl rfl (Nat.le_of_ble_eq_true rfl) dX7_washOff_38 (ws' := [(h_t, .inr (6, [.int r11, .int t_turn, .long m_t_order_5, .ref h_t_past, .int m_t_pastLength_6, .ref h_t_held, .int t_heldLength])), (h_t_past, jJ D 8 m_t_past__7)]) rfl ?_
        refine j_aload_n C dX7_washOff_41 rfl 1 rfl ?_
        refine j_dup C dX7_washOff_42 rfl ?_
        refine j_get C ibX7 (ci := 6) 0 rfl rfl 2 (by decide) bfX7_25 (v := .long m_t_order_5) rfl dX7_washOff_43 ?_
        refine j_iconst C dX7_washOff_46 (v := (4 : Int32)) (by decide) ?_
        refine j_lushr C dX7_washOff_47 ?_
        refine j_nml h (fun w13 h => ?_)
        refine j_put C ibX7 tyX7 tyX7_ok nmX7 (ci := 6) 0 rfl rfl 2 (by decide) bfX7_25 rfl rfl rfl (Nat.le_of_ble_eq_true rfl) dX7_washOff_48 (ws' := [(h_t, .inr (6, [.int r11, .int t_turn, .long w13, .ref h_t_past, .int m_t_pastLength_6, .ref h_t_held, .int t_heldLength])), (h_t_past, jJ D 8 m_t_past__7)]) rfl ?_
        refine j_iinc C dX7_washOff_51 3 rfl (lv' := fun v14 => [(2, .int v14), (3, .int v10), (0, .ref h_t), (1, .int p1)]) (by decide) (fun _ => rfl) h (fun v14 h => ?_)
        refine j_goto C dX7_washOff_54 (tgt := 6) (by decide) ?_
        refine j_sub (lv' := [(0, .ref h_t), (1, .int p1), (2, .int v14)]) [2, 3, 0] rfl ?_
        exact i6 v14 r11 w13 m_t_pastLength_6 m_t_past__7 h
  refine j_aload_n C dX7_washOff_0 rfl 0 rfl ?_
  obtain ⟨r1, q2, h⟩ := jl_bind h
  refine j_cV0 C (mX7_noteForUndo (jlaunch X) D h_t h_t_past h_t_held t_worn t_turn t_order t_pastLength t_heldLength t_past_ r1 q2) bmX7_35 biX7_noteForUndo bsX7_noteForUndo bzX7 bcX7_noteForUndo rfl hX7_noteForUndo (rest := []) rfl (jroom_of rfl) 0 (ci := 6) rfl rfl rfl [0, 1] [] [0, 1] (wr := []) (ws2 := [(h_t, .inr (6, [.int t_worn, .int t_turn, .long t_order, .ref h_t_past, .int r1.1, .ref h_t_held, .int t_heldLength])), (h_t_past, jJ D 8 r1.2)]) rfl rfl rfl rfl rfl (Nat.le_of_ble_eq_true rfl) dX7_washOff_1 ?_
  refine j_iconst C dX7_washOff_4 (v := (0 : Int32)) (by decide) ?_
  refine j_istore_nC C dX7_washOff_5 rfl (lv' := [(2, .int ((0 : Int32))), (0, .ref h_t), (1, .int p1)]) (by decide) rfl ?_
  refine j_sub (lv' := [(0, .ref h_t), (1, .int p1), (2, .int ((0 : Int32)))]) [1, 2, 0] rfl ?_
  exact L6 ((0 : Int32)) t_worn t_order r1.1 r1.2 h
theorem dX7_skip_0 : decode cX7_skip 0 = .ok (.aload_n 0, 1) := by decide +kernel
theorem dX7_skip_1 : decode cX7_skip 1 = .ok (.invokevirtual 35, 3) := by decide +kernel
theorem dX7_skip_4 : decode cX7_skip 4 = .ok (.aload_n 0, 1) := by decide +kernel
theorem dX7_skip_5 : decode cX7_skip 5 = .ok (.iconst 1, 1) := by decide +kernel
theorem dX7_skip_6 : decode cX7_skip 6 = .ok (.aload_n 0, 1) := by decide +kernel
theorem dX7_skip_7 : decode cX7_skip 7 = .ok (.getfield 22, 3) := by decide +kernel
theorem dX7_skip_10 : decode cX7_skip 10 = .ok (.isub, 1) := by decide +kernel
theorem dX7_skip_11 : decode cX7_skip 11 = .ok (.putfield 22, 3) := by decide +kernel
theorem dX7_skip_14 : decode cX7_skip 14 = .ok (.return_, 1) := by decide +kernel
def fX7_skip (t_worn : Int32) (t_turn : Int32) (t_order : Int64) (t_pastLength : Int32) (t_past_ : Nat → Int64) : Option (Int32 × Int32 × (Nat → Int64)) :=
((fX7_noteForUndo t_worn t_turn t_order t_pastLength t_past_).bind fun r1 =>
(jl_let (((1 : Int32)) - t_turn) fun w3 =>
(some (w3, r1.1, r1.2))))
def oX7_skip (D : jv_D) (h_t : Nat) (h_t_past : Nat) (h_t_held : Nat) (t_worn : Int32) (t_order : Int64) (t_heldLength : Int32) (r : Int32 × Int32 × (Nat → Int64)) : va_W := [(h_t, .inr (6, [.int t_worn, .int r.1, .long t_order, .ref h_t_past, .int r.2.1, .ref h_t_held, .int t_heldLength])), (h_t_past, jJ D 8 r.2.2)]
set_option maxHeartbeats 40000000 in
set_option maxRecDepth 100000 in
theorem mX7_skip (l : Launch) (D : jv_D) (h_t : Nat) (h_t_past : Nat) (h_t_held : Nat) (t_worn : Int32) (t_turn : Int32) (t_order : Int64) (t_pastLength : Int32) (t_heldLength : Int32) (t_past_ : Nat → Int64) (r : Int32 × Int32 × (Nat → Int64)) (h : fX7_skip t_worn t_turn t_order t_pastLength t_past_ = some r) : MM l yX7_skip (jW yX7_skip cX7_skip 1 none) ({ frames := 2, cells := 0, slots := 0, locals := 84 }) D [.ref h_t] [(h_t, .inr (6, [.int t_worn, .int t_turn, .long t_order, .ref h_t_past, .int t_pastLength, .ref h_t_held, .int t_heldLength])), (h_t_past, jJ D 8 t_past_)] none (oX7_skip D h_t h_t_past h_t_held t_worn t_order t_heldLength r) := by
  refine mn_of hpX7_skip (Nat.le_of_ble_eq_true rfl) ?_
  intro X hXl C E0 hN
  subst hXl
  replace C : JC D X 1 RX7 cX7_skip ({ frames := 2, cells := 0, slots := 0, locals := 84 }) := C
  have E : JE D X 0 0 none (fun _ : Unit => none) (fun _ : Unit => (oX7_skip D h_t h_t_past h_t_held t_worn t_order t_heldLength r)) := E0 0 0 rfl rfl
  clear E0 hN
  show JJ D X 1 0 0 0 [(0, .ref h_t)] [] [(h_t, .inr (6, [.int t_worn, .int t_turn, .long t_order, .ref h_t_past, .int t_pastLength, .ref h_t_held, .int t_heldLength])), (h_t_past, jJ D 8 t_past_)]
  unfold fX7_skip at h
  refine j_aload_n C dX7_skip_0 rfl 0 rfl ?_
  obtain ⟨r1, q2, h⟩ := jl_bind h
  refine j_cV0 C (mX7_noteForUndo (jlaunch X) D h_t h_t_past h_t_held t_worn t_turn t_order t_pastLength t_heldLength t_past_ r1 q2) bmX7_35 biX7_noteForUndo bsX7_noteForUndo bzX7 bcX7_noteForUndo rfl hX7_noteForUndo (rest := []) rfl (jroom_of rfl) 0 (ci := 6) rfl rfl rfl [0, 1] [] [0, 1] (wr := []) (ws2 := [(h_t, .inr (6, [.int t_worn, .int t_turn, .long t_order, .ref h_t_past, .int r1.1, .ref h_t_held, .int t_heldLength])), (h_t_past, jJ D 8 r1.2)]) rfl rfl rfl rfl rfl (Nat.le_of_ble_eq_true rfl) dX7_skip_1 ?_
  refine j_aload_n C dX7_skip_4 rfl 0 rfl ?_
  refine j_iconst C dX7_skip_5 (v := (1 : Int32)) (by decide) ?_
  refine j_aload_n C dX7_skip_6 rfl 0 rfl ?_
  refine j_get C ibX7 (ci := 6) 0 rfl rfl 1 (by decide) bfX7_22 (v := .int t_turn) rfl dX7_skip_7 ?_
  refine j_isub C dX7_skip_10 ?_
  refine j_nmi h (fun w3 h => ?_)
  refine j_put C ibX7 tyX7 tyX7_ok nmX7 (ci := 6) 0 rfl rfl 1 (by decide) bfX7_22 rfl rfl rfl (Nat.le_of_ble_eq_true rfl) dX7_skip_11 (ws' := [(h_t, .inr (6, [.int t_worn, .int w3, .long t_order, .ref h_t_past, .int r1.1, .ref h_t_held, .int t_heldLength])), (h_t_past, jJ D 8 r1.2)]) rfl ?_
  exact j_vretR C (r := r) (rtf := fun r => none) (wff := fun r => (oX7_skip D h_t h_t_past h_t_held t_worn t_order t_heldLength r)) E h rfl rfl dX7_skip_14
theorem dX7_standAs_0 : decode cX7_standAs 0 = .ok (.aload_n 0, 1) := by decide +kernel
theorem dX7_standAs_1 : decode cX7_standAs 1 = .ok (.lload_n 1, 1) := by decide +kernel
theorem dX7_standAs_2 : decode cX7_standAs 2 = .ok (.ldc2_w 60, 3) := by decide +kernel
theorem dX7_standAs_5 : decode cX7_standAs 5 = .ok (.land, 1) := by decide +kernel
theorem dX7_standAs_6 : decode cX7_standAs 6 = .ok (.l2i, 1) := by decide +kernel
theorem dX7_standAs_7 : decode cX7_standAs 7 = .ok (.putfield 18, 3) := by decide +kernel
theorem dX7_standAs_10 : decode cX7_standAs 10 = .ok (.aload_n 0, 1) := by decide +kernel
theorem dX7_standAs_11 : decode cX7_standAs 11 = .ok (.lload_n 1, 1) := by decide +kernel
theorem dX7_standAs_12 : decode cX7_standAs 12 = .ok (.bipush 27, 2) := by decide +kernel
theorem dX7_standAs_14 : decode cX7_standAs 14 = .ok (.lushr, 1) := by decide +kernel
theorem dX7_standAs_15 : decode cX7_standAs 15 = .ok (.lconst 1, 1) := by decide +kernel
theorem dX7_standAs_16 : decode cX7_standAs 16 = .ok (.land, 1) := by decide +kernel
theorem dX7_standAs_17 : decode cX7_standAs 17 = .ok (.l2i, 1) := by decide +kernel
theorem dX7_standAs_18 : decode cX7_standAs 18 = .ok (.putfield 22, 3) := by decide +kernel
theorem dX7_standAs_21 : decode cX7_standAs 21 = .ok (.aload_n 0, 1) := by decide +kernel
theorem dX7_standAs_22 : decode cX7_standAs 22 = .ok (.lload_n 1, 1) := by decide +kernel
theorem dX7_standAs_23 : decode cX7_standAs 23 = .ok (.bipush 28, 2) := by decide +kernel
theorem dX7_standAs_25 : decode cX7_standAs 25 = .ok (.lushr, 1) := by decide +kernel
theorem dX7_standAs_26 : decode cX7_standAs 26 = .ok (.putfield 25, 3) := by decide +kernel
theorem dX7_standAs_29 : decode cX7_standAs 29 = .ok (.return_, 1) := by decide +kernel
def fX7_standAs (t_worn : Int32) (t_turn : Int32) (t_order : Int64) (p1 : Int64) : Option (Int32 × Int32 × Int64) :=
(jl_let ((p1 &&& ((134217727 : Int64))).toInt32) fun w1 =>
(jl_let ((((p1.toUInt64 >>> (((27 : Int32)).toInt64.toUInt64 &&& Int64.toUInt64 63)).toInt64) &&& ((1 : Int64))).toInt32) fun w2 =>
(jl_let ((p1.toUInt64 >>> (((28 : Int32)).toInt64.toUInt64 &&& Int64.toUInt64 63)).toInt64) fun w3 =>
(some (w1, w2, w3)))))
def oX7_standAs (D : jv_D) (h_t : Nat) (h_t_past : Nat) (h_t_held : Nat) (t_pastLength : Int32) (t_heldLength : Int32) (r : Int32 × Int32 × Int64) : va_W := [(h_t, .inr (6, [.int r.1, .int r.2.1, .long r.2.2, .ref h_t_past, .int t_pastLength, .ref h_t_held, .int t_heldLength]))]
set_option maxHeartbeats 40000000 in
set_option maxRecDepth 100000 in
theorem mX7_standAs (l : Launch) (D : jv_D) (h_t : Nat) (h_t_past : Nat) (h_t_held : Nat) (t_worn : Int32) (t_turn : Int32) (t_order : Int64) (t_pastLength : Int32) (t_heldLength : Int32) (p1 : Int64) (r : Int32 × Int32 × Int64) (h : fX7_standAs t_worn t_turn t_order p1 = some r) : MM l yX7_standAs (jW yX7_standAs cX7_standAs 3 none) ({ frames := 0, cells := 0, slots := 0, locals := 0 }) D [.ref h_t, .long p1] [(h_t, .inr (6, [.int t_worn, .int t_turn, .long t_order, .ref h_t_past, .int t_pastLength, .ref h_t_held, .int t_heldLength]))] none (oX7_standAs D h_t h_t_past h_t_held t_pastLength t_heldLength r) := by
  refine mn_of hpX7_standAs (Nat.le_of_ble_eq_true rfl) ?_
  intro X hXl C E0 hN
  subst hXl
  replace C : JC D X 3 RX7 cX7_standAs ({ frames := 0, cells := 0, slots := 0, locals := 0 }) := C
  have E : JE D X 0 0 none (fun _ : Unit => none) (fun _ : Unit => (oX7_standAs D h_t h_t_past h_t_held t_pastLength t_heldLength r)) := E0 0 0 rfl rfl
  clear E0 hN
  show JJ D X 3 0 0 0 [(0, .ref h_t), (1, .long p1)] [] [(h_t, .inr (6, [.int t_worn, .int t_turn, .long t_order, .ref h_t_past, .int t_pastLength, .ref h_t_held, .int t_heldLength]))]
  unfold fX7_standAs at h
  refine j_aload_n C dX7_standAs_0 rfl 0 rfl ?_
  refine j_lload_n C dX7_standAs_1 rfl 1 rfl ?_
  refine j_ldc2_w C bKX7_60 dX7_standAs_2 ?_
  refine j_land C dX7_standAs_5 ?_
  refine j_l2i C dX7_standAs_6 ?_
  refine j_nmi h (fun w1 h => ?_)
  refine j_put C ibX7 tyX7 tyX7_ok nmX7 (ci := 6) 0 rfl rfl 0 (by decide) bfX7_18 rfl rfl rfl (Nat.le_of_ble_eq_true rfl) dX7_standAs_7 (ws' := [(h_t, .inr (6, [.int w1, .int t_turn, .long t_order, .ref h_t_past, .int t_pastLength, .ref h_t_held, .int t_heldLength]))]) rfl ?_
  refine j_aload_n C dX7_standAs_10 rfl 0 rfl ?_
  refine j_lload_n C dX7_standAs_11 rfl 1 rfl ?_
  refine j_bipush C dX7_standAs_12 (v := (27 : Int32)) (by decide) ?_
  refine j_lushr C dX7_standAs_14 ?_
  refine j_lconst C dX7_standAs_15 (v := (1 : Int64)) (by decide) ?_
  refine j_land C dX7_standAs_16 ?_
  refine j_l2i C dX7_standAs_17 ?_
  refine j_nmi h (fun w2 h => ?_)
  refine j_put C ibX7 tyX7 tyX7_ok nmX7 (ci := 6) 0 rfl rfl 1 (by decide) bfX7_22 rfl rfl rfl (Nat.le_of_ble_eq_true rfl) dX7_standAs_18 (ws' := [(h_t, .inr (6, [.int w1, .int w2, .long t_order, .ref h_t_past, .int t_pastLength, .ref h_t_held, .int t_heldLength]))]) rfl ?_
  refine j_aload_n C dX7_standAs_21 rfl 0 rfl ?_
  refine j_lload_n C dX7_standAs_22 rfl 1 rfl ?_
  refine j_bipush C dX7_standAs_23 (v := (28 : Int32)) (by decide) ?_
  refine j_lushr C dX7_standAs_25 ?_
  refine j_nml h (fun w3 h => ?_)
  refine j_put C ibX7 tyX7 tyX7_ok nmX7 (ci := 6) 0 rfl rfl 2 (by decide) bfX7_25 rfl rfl rfl (Nat.le_of_ble_eq_true rfl) dX7_standAs_26 (ws' := [(h_t, .inr (6, [.int w1, .int w2, .long w3, .ref h_t_past, .int t_pastLength, .ref h_t_held, .int t_heldLength]))]) rfl ?_
  exact j_vretR C (r := r) (rtf := fun r => none) (wff := fun r => (oX7_standAs D h_t h_t_past h_t_held t_pastLength t_heldLength r)) E h rfl rfl dX7_standAs_29
theorem dX7_stepBack_0 : decode cX7_stepBack 0 = .ok (.aload_n 0, 1) := by decide +kernel
theorem dX7_stepBack_1 : decode cX7_stepBack 1 = .ok (.getfield 29, 3) := by decide +kernel
theorem dX7_stepBack_4 : decode cX7_stepBack 4 = .ok (.iconst 1, 1) := by decide +kernel
theorem dX7_stepBack_5 : decode cX7_stepBack 5 = .ok (.isub, 1) := by decide +kernel
theorem dX7_stepBack_6 : decode cX7_stepBack 6 = .ok (.istore_n 1, 1) := by decide +kernel
theorem dX7_stepBack_7 : decode cX7_stepBack 7 = .ok (.iload_n 1, 1) := by decide +kernel
theorem dX7_stepBack_8 : decode cX7_stepBack 8 = .ok (.ifCond .lt 12, 3) := by decide +kernel
theorem dX7_stepBack_11 : decode cX7_stepBack 11 = .ok (.iload_n 1, 1) := by decide +kernel
theorem dX7_stepBack_12 : decode cX7_stepBack 12 = .ok (.aload_n 0, 1) := by decide +kernel
theorem dX7_stepBack_13 : decode cX7_stepBack 13 = .ok (.getfield 9, 3) := by decide +kernel
theorem dX7_stepBack_16 : decode cX7_stepBack 16 = .ok (.arraylength, 1) := by decide +kernel
theorem dX7_stepBack_17 : decode cX7_stepBack 17 = .ok (.if_icmp .lt 6, 3) := by decide +kernel
theorem dX7_stepBack_20 : decode cX7_stepBack 20 = .ok (.bipush (-2), 2) := by decide +kernel
theorem dX7_stepBack_22 : decode cX7_stepBack 22 = .ok (.ireturn, 1) := by decide +kernel
theorem dX7_stepBack_23 : decode cX7_stepBack 23 = .ok (.aload_n 0, 1) := by decide +kernel
theorem dX7_stepBack_24 : decode cX7_stepBack 24 = .ok (.aload_n 0, 1) := by decide +kernel
theorem dX7_stepBack_25 : decode cX7_stepBack 25 = .ok (.getfield 9, 3) := by decide +kernel
theorem dX7_stepBack_28 : decode cX7_stepBack 28 = .ok (.iload_n 1, 1) := by decide +kernel
theorem dX7_stepBack_29 : decode cX7_stepBack 29 = .ok (.laload, 1) := by decide +kernel
theorem dX7_stepBack_30 : decode cX7_stepBack 30 = .ok (.invokevirtual 46, 3) := by decide +kernel
theorem dX7_stepBack_33 : decode cX7_stepBack 33 = .ok (.aload_n 0, 1) := by decide +kernel
theorem dX7_stepBack_34 : decode cX7_stepBack 34 = .ok (.iload_n 1, 1) := by decide +kernel
theorem dX7_stepBack_35 : decode cX7_stepBack 35 = .ok (.putfield 29, 3) := by decide +kernel
theorem dX7_stepBack_38 : decode cX7_stepBack 38 = .ok (.iload_n 1, 1) := by decide +kernel
theorem dX7_stepBack_39 : decode cX7_stepBack 39 = .ok (.ireturn, 1) := by decide +kernel
def fX7_stepBack (t_worn : Int32) (t_turn : Int32) (t_order : Int64) (t_pastLength : Int32) (t_past_ : Nat → Int64) : Option (Int32 × Int32 × Int32 × Int64 × Int32) :=
(jl_let (t_pastLength - ((1 : Int32))) fun v1 =>
(if v1 < 0 then
(some ((-2 : Int32), t_worn, t_turn, t_order, t_pastLength))
else
(if v1 < ((8 : Int32)) then
(if v1 < 0 ∨ 8 ≤ v1.toNatClampNeg then none else
((fX7_standAs t_worn t_turn t_order (t_past_ v1.toNatClampNeg)).bind fun r5 =>
(some (v1, r5.1, r5.2.1, r5.2.2, v1))))
else
(some ((-2 : Int32), t_worn, t_turn, t_order, t_pastLength)))))
def oX7_stepBack (D : jv_D) (h_t : Nat) (h_t_past : Nat) (h_t_held : Nat) (t_heldLength : Int32) (t_past_ : Nat → Int64) (r : Int32 × Int32 × Int32 × Int64 × Int32) : va_W := [(h_t, .inr (6, [.int r.2.1, .int r.2.2.1, .long r.2.2.2.1, .ref h_t_past, .int r.2.2.2.2, .ref h_t_held, .int t_heldLength])), (h_t_past, jJ D 8 t_past_)]
set_option maxHeartbeats 40000000 in
set_option maxRecDepth 100000 in
theorem mX7_stepBack (l : Launch) (D : jv_D) (h_t : Nat) (h_t_past : Nat) (h_t_held : Nat) (t_worn : Int32) (t_turn : Int32) (t_order : Int64) (t_pastLength : Int32) (t_heldLength : Int32) (t_past_ : Nat → Int64) (r : Int32 × Int32 × Int32 × Int64 × Int32) (h : fX7_stepBack t_worn t_turn t_order t_pastLength t_past_ = some r) : MM l yX7_stepBack (jW yX7_stepBack cX7_stepBack 2 (some .int)) ({ frames := 1, cells := 0, slots := 0, locals := 22 }) D [.ref h_t] [(h_t, .inr (6, [.int t_worn, .int t_turn, .long t_order, .ref h_t_past, .int t_pastLength, .ref h_t_held, .int t_heldLength])), (h_t_past, jJ D 8 t_past_)] (some (.int r.1)) (oX7_stepBack D h_t h_t_past h_t_held t_heldLength t_past_ r) := by
  refine mn_of hpX7_stepBack (Nat.le_of_ble_eq_true rfl) ?_
  intro X hXl C E0 hN
  subst hXl
  replace C : JC D X 2 RX7 cX7_stepBack ({ frames := 1, cells := 0, slots := 0, locals := 22 }) := C
  have E : JE D X 0 0 (some .int) (fun _ : Unit => (some (.int r.1))) (fun _ : Unit => (oX7_stepBack D h_t h_t_past h_t_held t_heldLength t_past_ r)) := E0 0 0 rfl rfl
  clear E0 hN
  show JJ D X 2 0 0 0 [(0, .ref h_t)] [] [(h_t, .inr (6, [.int t_worn, .int t_turn, .long t_order, .ref h_t_past, .int t_pastLength, .ref h_t_held, .int t_heldLength])), (h_t_past, jJ D 8 t_past_)]
  unfold fX7_stepBack at h
  refine j_aload_n C dX7_stepBack_0 rfl 0 rfl ?_
  refine j_get C ibX7 (ci := 6) 0 rfl rfl 4 (by decide) bfX7_29 (v := .int t_pastLength) rfl dX7_stepBack_1 ?_
  refine j_iconst C dX7_stepBack_4 (v := (1 : Int32)) (by decide) ?_
  refine j_isub C dX7_stepBack_5 ?_
  refine j_istore_n C dX7_stepBack_6 rfl (lv' := fun v1 => [(1, .int v1), (0, .ref h_t)]) (by decide) (fun _ => rfl) h (fun v1 h => ?_)
  refine j_iload_n C dX7_stepBack_7 rfl 0 rfl ?_
  refine j_if_lt C (tgt := 20) dX7_stepBack_8 (by decide) h (fun c2 h => ?_) (fun c2 h => ?_)
  · refine j_bipush C dX7_stepBack_20 (v := (-2 : Int32)) (by decide) ?_
    exact j_iretR C (r := r) (rtf := fun r => (some (.int r.1))) (wff := fun r => (oX7_stepBack D h_t h_t_past h_t_held t_heldLength t_past_ r)) E h rfl rfl dX7_stepBack_22
  · refine j_iload_n C dX7_stepBack_11 rfl 0 rfl ?_
    refine j_aload_n C dX7_stepBack_12 rfl 1 rfl ?_
    refine j_get C ibX7 (ci := 6) 0 rfl rfl 3 (by decide) bfX7_9 (v := .ref h_t_past) rfl dX7_stepBack_13 ?_
    refine j_llen C 1 rfl (v := (8 : Int32)) (by decide) dX7_stepBack_16 ?_
    refine j_icmp_lt C (tgt := 23) dX7_stepBack_17 (by decide) h (fun c3 h => ?_) (fun c3 h => ?_)
    · refine j_aload_n C dX7_stepBack_23 rfl 1 rfl ?_
      refine j_aload_n C dX7_stepBack_24 rfl 1 rfl ?_
      refine j_get C ibX7 (ci := 6) 0 rfl rfl 3 (by decide) bfX7_9 (v := .ref h_t_past) rfl dX7_stepBack_25 ?_
      refine j_iload_n C dX7_stepBack_28 rfl 0 rfl ?_
      refine jl_inb h (fun b4 h => ?_)
      refine j_lald C 1 rfl b4 dX7_stepBack_29 ?_
      obtain ⟨r5, q6, h⟩ := jl_bind h
      refine j_cV0 C (mX7_standAs (jlaunch X) D h_t h_t_past h_t_held t_worn t_turn t_order t_pastLength t_heldLength (t_past_ v1.toNatClampNeg) r5 q6) bmX7_46 biX7_standAs bsX7_standAs bzX7 bcX7_standAs rfl hX7_standAs (rest := []) rfl (jroom_of rfl) 0 (ci := 6) rfl rfl rfl [0] [1] [1, 0] (wr := [(h_t_past, jJ D 8 t_past_)]) (ws2 := [(h_t, .inr (6, [.int r5.1, .int r5.2.1, .long r5.2.2, .ref h_t_past, .int t_pastLength, .ref h_t_held, .int t_heldLength])), (h_t_past, jJ D 8 t_past_)]) rfl rfl rfl rfl rfl (Nat.le_of_ble_eq_true rfl) dX7_stepBack_30 ?_
      refine j_aload_n C dX7_stepBack_33 rfl 1 rfl ?_
      refine j_iload_n C dX7_stepBack_34 rfl 0 rfl ?_
      refine j_put C ibX7 tyX7 tyX7_ok nmX7 (ci := 6) 0 rfl rfl 4 (by decide) bfX7_29 rfl rfl rfl (Nat.le_of_ble_eq_true rfl) dX7_stepBack_35 (ws' := [(h_t, .inr (6, [.int r5.1, .int r5.2.1, .long r5.2.2, .ref h_t_past, .int v1, .ref h_t_held, .int t_heldLength])), (h_t_past, jJ D 8 t_past_)]) rfl ?_
      refine j_iload_n C dX7_stepBack_38 rfl 0 rfl ?_
      exact j_iretR C (r := r) (rtf := fun r => (some (.int r.1))) (wff := fun r => (oX7_stepBack D h_t h_t_past h_t_held t_heldLength t_past_ r)) E h rfl rfl dX7_stepBack_39
    · refine j_bipush C dX7_stepBack_20 (v := (-2 : Int32)) (by decide) ?_
      exact j_iretR C (r := r) (rtf := fun r => (some (.int r.1))) (wff := fun r => (oX7_stepBack D h_t h_t_past h_t_held t_heldLength t_past_ r)) E h rfl rfl dX7_stepBack_22
theorem dX7_hold_0 : decode cX7_hold 0 = .ok (.aload_n 0, 1) := by decide +kernel
theorem dX7_hold_1 : decode cX7_hold 1 = .ok (.getfield 32, 3) := by decide +kernel
theorem dX7_hold_4 : decode cX7_hold 4 = .ok (.ifCond .lt 15, 3) := by decide +kernel
theorem dX7_hold_7 : decode cX7_hold 7 = .ok (.aload_n 0, 1) := by decide +kernel
theorem dX7_hold_8 : decode cX7_hold 8 = .ok (.getfield 32, 3) := by decide +kernel
theorem dX7_hold_11 : decode cX7_hold 11 = .ok (.aload_n 0, 1) := by decide +kernel
theorem dX7_hold_12 : decode cX7_hold 12 = .ok (.getfield 15, 3) := by decide +kernel
theorem dX7_hold_15 : decode cX7_hold 15 = .ok (.arraylength, 1) := by decide +kernel
theorem dX7_hold_16 : decode cX7_hold 16 = .ok (.if_icmp .lt 6, 3) := by decide +kernel
theorem dX7_hold_19 : decode cX7_hold 19 = .ok (.bipush (-3), 2) := by decide +kernel
theorem dX7_hold_21 : decode cX7_hold 21 = .ok (.ireturn, 1) := by decide +kernel
theorem dX7_hold_22 : decode cX7_hold 22 = .ok (.aload_n 0, 1) := by decide +kernel
theorem dX7_hold_23 : decode cX7_hold 23 = .ok (.getfield 15, 3) := by decide +kernel
theorem dX7_hold_26 : decode cX7_hold 26 = .ok (.aload_n 0, 1) := by decide +kernel
theorem dX7_hold_27 : decode cX7_hold 27 = .ok (.getfield 32, 3) := by decide +kernel
theorem dX7_hold_30 : decode cX7_hold 30 = .ok (.aload_n 0, 1) := by decide +kernel
theorem dX7_hold_31 : decode cX7_hold 31 = .ok (.invokevirtual 50, 3) := by decide +kernel
theorem dX7_hold_34 : decode cX7_hold 34 = .ok (.lastore, 1) := by decide +kernel
theorem dX7_hold_35 : decode cX7_hold 35 = .ok (.aload_n 0, 1) := by decide +kernel
theorem dX7_hold_36 : decode cX7_hold 36 = .ok (.dup, 1) := by decide +kernel
theorem dX7_hold_37 : decode cX7_hold 37 = .ok (.getfield 32, 3) := by decide +kernel
theorem dX7_hold_40 : decode cX7_hold 40 = .ok (.iconst 1, 1) := by decide +kernel
theorem dX7_hold_41 : decode cX7_hold 41 = .ok (.iadd, 1) := by decide +kernel
theorem dX7_hold_42 : decode cX7_hold 42 = .ok (.putfield 32, 3) := by decide +kernel
theorem dX7_hold_45 : decode cX7_hold 45 = .ok (.aload_n 0, 1) := by decide +kernel
theorem dX7_hold_46 : decode cX7_hold 46 = .ok (.getfield 32, 3) := by decide +kernel
theorem dX7_hold_49 : decode cX7_hold 49 = .ok (.ireturn, 1) := by decide +kernel
def fX7_hold (t_worn : Int32) (t_turn : Int32) (t_order : Int64) (t_heldLength : Int32) (t_held_ : Nat → Int64) : Option (Int32 × Int32 × (Nat → Int64)) :=
(if t_heldLength < 0 then
(some ((-3 : Int32), t_heldLength, t_held_))
else
(if t_heldLength < ((2 : Int32)) then
((fX7_packed t_worn t_turn t_order).bind fun r3 =>
(if t_heldLength < 0 ∨ 2 ≤ t_heldLength.toNatClampNeg then none else
(jl_let (vp_updL t_held_ t_heldLength.toNatClampNeg r3) fun g6 =>
(jl_let (t_heldLength + ((1 : Int32))) fun w7 =>
(some (w7, w7, g6))))))
else
(some ((-3 : Int32), t_heldLength, t_held_))))
def oX7_hold (D : jv_D) (h_t : Nat) (h_t_past : Nat) (h_t_held : Nat) (t_worn : Int32) (t_turn : Int32) (t_order : Int64) (t_pastLength : Int32) (r : Int32 × Int32 × (Nat → Int64)) : va_W := [(h_t, .inr (6, [.int t_worn, .int t_turn, .long t_order, .ref h_t_past, .int t_pastLength, .ref h_t_held, .int r.2.1])), (h_t_held, jJ D 2 r.2.2)]
set_option maxHeartbeats 40000000 in
set_option maxRecDepth 100000 in
theorem mX7_hold (l : Launch) (D : jv_D) (h_t : Nat) (h_t_past : Nat) (h_t_held : Nat) (t_worn : Int32) (t_turn : Int32) (t_order : Int64) (t_pastLength : Int32) (t_heldLength : Int32) (t_held_ : Nat → Int64) (r : Int32 × Int32 × (Nat → Int64)) (h : fX7_hold t_worn t_turn t_order t_heldLength t_held_ = some r) : MM l yX7_hold (jW yX7_hold cX7_hold 1 (some .int)) ({ frames := 1, cells := 0, slots := 0, locals := 20 }) D [.ref h_t] [(h_t, .inr (6, [.int t_worn, .int t_turn, .long t_order, .ref h_t_past, .int t_pastLength, .ref h_t_held, .int t_heldLength])), (h_t_held, jJ D 2 t_held_)] (some (.int r.1)) (oX7_hold D h_t h_t_past h_t_held t_worn t_turn t_order t_pastLength r) := by
  refine mn_of hpX7_hold (Nat.le_of_ble_eq_true rfl) ?_
  intro X hXl C E0 hN
  subst hXl
  replace C : JC D X 1 RX7 cX7_hold ({ frames := 1, cells := 0, slots := 0, locals := 20 }) := C
  have E : JE D X 0 0 (some .int) (fun _ : Unit => (some (.int r.1))) (fun _ : Unit => (oX7_hold D h_t h_t_past h_t_held t_worn t_turn t_order t_pastLength r)) := E0 0 0 rfl rfl
  clear E0 hN
  show JJ D X 1 0 0 0 [(0, .ref h_t)] [] [(h_t, .inr (6, [.int t_worn, .int t_turn, .long t_order, .ref h_t_past, .int t_pastLength, .ref h_t_held, .int t_heldLength])), (h_t_held, jJ D 2 t_held_)]
  unfold fX7_hold at h
  refine j_aload_n C dX7_hold_0 rfl 0 rfl ?_
  refine j_get C ibX7 (ci := 6) 0 rfl rfl 6 (by decide) bfX7_32 (v := .int t_heldLength) rfl dX7_hold_1 ?_
  refine j_if_lt C (tgt := 19) dX7_hold_4 (by decide) h (fun c1 h => ?_) (fun c1 h => ?_)
  · refine j_bipush C dX7_hold_19 (v := (-3 : Int32)) (by decide) ?_
    exact j_iretR C (r := r) (rtf := fun r => (some (.int r.1))) (wff := fun r => (oX7_hold D h_t h_t_past h_t_held t_worn t_turn t_order t_pastLength r)) E h rfl rfl dX7_hold_21
  · refine j_aload_n C dX7_hold_7 rfl 0 rfl ?_
    refine j_get C ibX7 (ci := 6) 0 rfl rfl 6 (by decide) bfX7_32 (v := .int t_heldLength) rfl dX7_hold_8 ?_
    refine j_aload_n C dX7_hold_11 rfl 0 rfl ?_
    refine j_get C ibX7 (ci := 6) 0 rfl rfl 5 (by decide) bfX7_15 (v := .ref h_t_held) rfl dX7_hold_12 ?_
    refine j_llen C 1 rfl (v := (2 : Int32)) (by decide) dX7_hold_15 ?_
    refine j_icmp_lt C (tgt := 22) dX7_hold_16 (by decide) h (fun c2 h => ?_) (fun c2 h => ?_)
    · refine j_aload_n C dX7_hold_22 rfl 0 rfl ?_
      refine j_get C ibX7 (ci := 6) 0 rfl rfl 5 (by decide) bfX7_15 (v := .ref h_t_held) rfl dX7_hold_23 ?_
      refine j_aload_n C dX7_hold_26 rfl 0 rfl ?_
      refine j_get C ibX7 (ci := 6) 0 rfl rfl 6 (by decide) bfX7_32 (v := .int t_heldLength) rfl dX7_hold_27 ?_
      refine j_aload_n C dX7_hold_30 rfl 0 rfl ?_
      obtain ⟨r3, q4, h⟩ := jl_bind h
      refine j_cV1 C (mX7_packed (jlaunch X) D h_t h_t_past h_t_held t_worn t_turn t_order t_pastLength t_heldLength r3 q4) bmX7_50 biX7_packed bsX7_packed bzX7 bcX7_packed rfl hX7_packed (rest := [.int t_heldLength, .ref h_t_held]) rfl (jroom_of rfl) 0 (ci := 6) rfl rfl rfl [0] [1] [1, 0] (wr := [(h_t_held, jJ D 2 t_held_)]) (ws2 := [(h_t, .inr (6, [.int t_worn, .int t_turn, .long t_order, .ref h_t_past, .int t_pastLength, .ref h_t_held, .int t_heldLength])), (h_t_held, jJ D 2 t_held_)]) rfl rfl rfl rfl rfl (Nat.le_of_ble_eq_true rfl) dX7_hold_31 ?_
      refine jl_inb h (fun b5 h => ?_)
      refine j_last C 1 rfl b5 dX7_hold_34 (ws' := fun g6 => [(h_t, .inr (6, [.int t_worn, .int t_turn, .long t_order, .ref h_t_past, .int t_pastLength, .ref h_t_held, .int t_heldLength])), (h_t_held, jJ D 2 g6)]) (fun _ => rfl) h (fun g6 h => ?_)
      refine j_aload_n C dX7_hold_35 rfl 0 rfl ?_
      refine j_dup C dX7_hold_36 rfl ?_
      refine j_get C ibX7 (ci := 6) 0 rfl rfl 6 (by decide) bfX7_32 (v := .int t_heldLength) rfl dX7_hold_37 ?_
      refine j_iconst C dX7_hold_40 (v := (1 : Int32)) (by decide) ?_
      refine j_iadd C dX7_hold_41 ?_
      refine j_nmi h (fun w7 h => ?_)
      refine j_put C ibX7 tyX7 tyX7_ok nmX7 (ci := 6) 0 rfl rfl 6 (by decide) bfX7_32 rfl rfl rfl (Nat.le_of_ble_eq_true rfl) dX7_hold_42 (ws' := [(h_t, .inr (6, [.int t_worn, .int t_turn, .long t_order, .ref h_t_past, .int t_pastLength, .ref h_t_held, .int w7])), (h_t_held, jJ D 2 g6)]) rfl ?_
      refine j_aload_n C dX7_hold_45 rfl 0 rfl ?_
      refine j_get C ibX7 (ci := 6) 0 rfl rfl 6 (by decide) bfX7_32 (v := .int w7) rfl dX7_hold_46 ?_
      exact j_iretR C (r := r) (rtf := fun r => (some (.int r.1))) (wff := fun r => (oX7_hold D h_t h_t_past h_t_held t_worn t_turn t_order t_pastLength r)) E h rfl rfl dX7_hold_49
    · refine j_bipush C dX7_hold_19 (v := (-3 : Int32)) (by decide) ?_
      exact j_iretR C (r := r) (rtf := fun r => (some (.int r.1))) (wff := fun r => (oX7_hold D h_t h_t_past h_t_held t_worn t_turn t_order t_pastLength r)) E h rfl rfl dX7_hold_21
theorem dX7_takeHeld_0 : decode cX7_takeHeld 0 = .ok (.aload_n 0, 1) := by decide +kernel
theorem dX7_takeHeld_1 : decode cX7_takeHeld 1 = .ok (.getfield 32, 3) := by decide +kernel
theorem dX7_takeHeld_4 : decode cX7_takeHeld 4 = .ok (.iconst 1, 1) := by decide +kernel
theorem dX7_takeHeld_5 : decode cX7_takeHeld 5 = .ok (.isub, 1) := by decide +kernel
theorem dX7_takeHeld_6 : decode cX7_takeHeld 6 = .ok (.istore_n 1, 1) := by decide +kernel
theorem dX7_takeHeld_7 : decode cX7_takeHeld 7 = .ok (.iload_n 1, 1) := by decide +kernel
theorem dX7_takeHeld_8 : decode cX7_takeHeld 8 = .ok (.ifCond .lt 12, 3) := by decide +kernel
theorem dX7_takeHeld_11 : decode cX7_takeHeld 11 = .ok (.iload_n 1, 1) := by decide +kernel
theorem dX7_takeHeld_12 : decode cX7_takeHeld 12 = .ok (.aload_n 0, 1) := by decide +kernel
theorem dX7_takeHeld_13 : decode cX7_takeHeld 13 = .ok (.getfield 15, 3) := by decide +kernel
theorem dX7_takeHeld_16 : decode cX7_takeHeld 16 = .ok (.arraylength, 1) := by decide +kernel
theorem dX7_takeHeld_17 : decode cX7_takeHeld 17 = .ok (.if_icmp .lt 6, 3) := by decide +kernel
theorem dX7_takeHeld_20 : decode cX7_takeHeld 20 = .ok (.bipush (-2), 2) := by decide +kernel
theorem dX7_takeHeld_22 : decode cX7_takeHeld 22 = .ok (.ireturn, 1) := by decide +kernel
theorem dX7_takeHeld_23 : decode cX7_takeHeld 23 = .ok (.aload_n 0, 1) := by decide +kernel
theorem dX7_takeHeld_24 : decode cX7_takeHeld 24 = .ok (.aload_n 0, 1) := by decide +kernel
theorem dX7_takeHeld_25 : decode cX7_takeHeld 25 = .ok (.getfield 15, 3) := by decide +kernel
theorem dX7_takeHeld_28 : decode cX7_takeHeld 28 = .ok (.iload_n 1, 1) := by decide +kernel
theorem dX7_takeHeld_29 : decode cX7_takeHeld 29 = .ok (.laload, 1) := by decide +kernel
theorem dX7_takeHeld_30 : decode cX7_takeHeld 30 = .ok (.invokevirtual 46, 3) := by decide +kernel
theorem dX7_takeHeld_33 : decode cX7_takeHeld 33 = .ok (.aload_n 0, 1) := by decide +kernel
theorem dX7_takeHeld_34 : decode cX7_takeHeld 34 = .ok (.iload_n 1, 1) := by decide +kernel
theorem dX7_takeHeld_35 : decode cX7_takeHeld 35 = .ok (.putfield 32, 3) := by decide +kernel
theorem dX7_takeHeld_38 : decode cX7_takeHeld 38 = .ok (.aload_n 0, 1) := by decide +kernel
theorem dX7_takeHeld_39 : decode cX7_takeHeld 39 = .ok (.iconst 0, 1) := by decide +kernel
theorem dX7_takeHeld_40 : decode cX7_takeHeld 40 = .ok (.putfield 29, 3) := by decide +kernel
theorem dX7_takeHeld_43 : decode cX7_takeHeld 43 = .ok (.iload_n 1, 1) := by decide +kernel
theorem dX7_takeHeld_44 : decode cX7_takeHeld 44 = .ok (.ireturn, 1) := by decide +kernel
def fX7_takeHeld (t_worn : Int32) (t_turn : Int32) (t_order : Int64) (t_pastLength : Int32) (t_heldLength : Int32) (t_held_ : Nat → Int64) : Option (Int32 × Int32 × Int32 × Int64 × Int32 × Int32) :=
(jl_let (t_heldLength - ((1 : Int32))) fun v1 =>
(if v1 < 0 then
(some ((-2 : Int32), t_worn, t_turn, t_order, t_pastLength, t_heldLength))
else
(if v1 < ((2 : Int32)) then
(if v1 < 0 ∨ 2 ≤ v1.toNatClampNeg then none else
((fX7_standAs t_worn t_turn t_order (t_held_ v1.toNatClampNeg)).bind fun r5 =>
(some (v1, r5.1, r5.2.1, r5.2.2, (0 : Int32), v1))))
else
(some ((-2 : Int32), t_worn, t_turn, t_order, t_pastLength, t_heldLength)))))
def oX7_takeHeld (D : jv_D) (h_t : Nat) (h_t_past : Nat) (h_t_held : Nat) (t_held_ : Nat → Int64) (r : Int32 × Int32 × Int32 × Int64 × Int32 × Int32) : va_W := [(h_t, .inr (6, [.int r.2.1, .int r.2.2.1, .long r.2.2.2.1, .ref h_t_past, .int r.2.2.2.2.1, .ref h_t_held, .int r.2.2.2.2.2])), (h_t_held, jJ D 2 t_held_)]
set_option maxHeartbeats 40000000 in
set_option maxRecDepth 100000 in
theorem mX7_takeHeld (l : Launch) (D : jv_D) (h_t : Nat) (h_t_past : Nat) (h_t_held : Nat) (t_worn : Int32) (t_turn : Int32) (t_order : Int64) (t_pastLength : Int32) (t_heldLength : Int32) (t_held_ : Nat → Int64) (r : Int32 × Int32 × Int32 × Int64 × Int32 × Int32) (h : fX7_takeHeld t_worn t_turn t_order t_pastLength t_heldLength t_held_ = some r) : MM l yX7_takeHeld (jW yX7_takeHeld cX7_takeHeld 2 (some .int)) ({ frames := 1, cells := 0, slots := 0, locals := 22 }) D [.ref h_t] [(h_t, .inr (6, [.int t_worn, .int t_turn, .long t_order, .ref h_t_past, .int t_pastLength, .ref h_t_held, .int t_heldLength])), (h_t_held, jJ D 2 t_held_)] (some (.int r.1)) (oX7_takeHeld D h_t h_t_past h_t_held t_held_ r) := by
  refine mn_of hpX7_takeHeld (Nat.le_of_ble_eq_true rfl) ?_
  intro X hXl C E0 hN
  subst hXl
  replace C : JC D X 2 RX7 cX7_takeHeld ({ frames := 1, cells := 0, slots := 0, locals := 22 }) := C
  have E : JE D X 0 0 (some .int) (fun _ : Unit => (some (.int r.1))) (fun _ : Unit => (oX7_takeHeld D h_t h_t_past h_t_held t_held_ r)) := E0 0 0 rfl rfl
  clear E0 hN
  show JJ D X 2 0 0 0 [(0, .ref h_t)] [] [(h_t, .inr (6, [.int t_worn, .int t_turn, .long t_order, .ref h_t_past, .int t_pastLength, .ref h_t_held, .int t_heldLength])), (h_t_held, jJ D 2 t_held_)]
  unfold fX7_takeHeld at h
  refine j_aload_n C dX7_takeHeld_0 rfl 0 rfl ?_
  refine j_get C ibX7 (ci := 6) 0 rfl rfl 6 (by decide) bfX7_32 (v := .int t_heldLength) rfl dX7_takeHeld_1 ?_
  refine j_iconst C dX7_takeHeld_4 (v := (1 : Int32)) (by decide) ?_
  refine j_isub C dX7_takeHeld_5 ?_
  refine j_istore_n C dX7_takeHeld_6 rfl (lv' := fun v1 => [(1, .int v1), (0, .ref h_t)]) (by decide) (fun _ => rfl) h (fun v1 h => ?_)
  refine j_iload_n C dX7_takeHeld_7 rfl 0 rfl ?_
  refine j_if_lt C (tgt := 20) dX7_takeHeld_8 (by decide) h (fun c2 h => ?_) (fun c2 h => ?_)
  · refine j_bipush C dX7_takeHeld_20 (v := (-2 : Int32)) (by decide) ?_
    exact j_iretR C (r := r) (rtf := fun r => (some (.int r.1))) (wff := fun r => (oX7_takeHeld D h_t h_t_past h_t_held t_held_ r)) E h rfl rfl dX7_takeHeld_22
  · refine j_iload_n C dX7_takeHeld_11 rfl 0 rfl ?_
    refine j_aload_n C dX7_takeHeld_12 rfl 1 rfl ?_
    refine j_get C ibX7 (ci := 6) 0 rfl rfl 5 (by decide) bfX7_15 (v := .ref h_t_held) rfl dX7_takeHeld_13 ?_
    refine j_llen C 1 rfl (v := (2 : Int32)) (by decide) dX7_takeHeld_16 ?_
    refine j_icmp_lt C (tgt := 23) dX7_takeHeld_17 (by decide) h (fun c3 h => ?_) (fun c3 h => ?_)
    · refine j_aload_n C dX7_takeHeld_23 rfl 1 rfl ?_
      refine j_aload_n C dX7_takeHeld_24 rfl 1 rfl ?_
      refine j_get C ibX7 (ci := 6) 0 rfl rfl 5 (by decide) bfX7_15 (v := .ref h_t_held) rfl dX7_takeHeld_25 ?_
      refine j_iload_n C dX7_takeHeld_28 rfl 0 rfl ?_
      refine jl_inb h (fun b4 h => ?_)
      refine j_lald C 1 rfl b4 dX7_takeHeld_29 ?_
      obtain ⟨r5, q6, h⟩ := jl_bind h
      refine j_cV0 C (mX7_standAs (jlaunch X) D h_t h_t_past h_t_held t_worn t_turn t_order t_pastLength t_heldLength (t_held_ v1.toNatClampNeg) r5 q6) bmX7_46 biX7_standAs bsX7_standAs bzX7 bcX7_standAs rfl hX7_standAs (rest := []) rfl (jroom_of rfl) 0 (ci := 6) rfl rfl rfl [0] [1] [1, 0] (wr := [(h_t_held, jJ D 2 t_held_)]) (ws2 := [(h_t, .inr (6, [.int r5.1, .int r5.2.1, .long r5.2.2, .ref h_t_past, .int t_pastLength, .ref h_t_held, .int t_heldLength])), (h_t_held, jJ D 2 t_held_)]) rfl rfl rfl rfl rfl (Nat.le_of_ble_eq_true rfl) dX7_takeHeld_30 ?_
      refine j_aload_n C dX7_takeHeld_33 rfl 1 rfl ?_
      refine j_iload_n C dX7_takeHeld_34 rfl 0 rfl ?_
      refine j_put C ibX7 tyX7 tyX7_ok nmX7 (ci := 6) 0 rfl rfl 6 (by decide) bfX7_32 rfl rfl rfl (Nat.le_of_ble_eq_true rfl) dX7_takeHeld_35 (ws' := [(h_t, .inr (6, [.int r5.1, .int r5.2.1, .long r5.2.2, .ref h_t_past, .int t_pastLength, .ref h_t_held, .int v1])), (h_t_held, jJ D 2 t_held_)]) rfl ?_
      refine j_aload_n C dX7_takeHeld_38 rfl 1 rfl ?_
      refine j_iconst C dX7_takeHeld_39 (v := (0 : Int32)) (by decide) ?_
      refine j_put C ibX7 tyX7 tyX7_ok nmX7 (ci := 6) 0 rfl rfl 4 (by decide) bfX7_29 rfl rfl rfl (Nat.le_of_ble_eq_true rfl) dX7_takeHeld_40 (ws' := [(h_t, .inr (6, [.int r5.1, .int r5.2.1, .long r5.2.2, .ref h_t_past, .int ((0 : Int32)), .ref h_t_held, .int v1])), (h_t_held, jJ D 2 t_held_)]) rfl ?_
      refine j_iload_n C dX7_takeHeld_43 rfl 0 rfl ?_
      exact j_iretR C (r := r) (rtf := fun r => (some (.int r.1))) (wff := fun r => (oX7_takeHeld D h_t h_t_past h_t_held t_held_ r)) E h rfl rfl dX7_takeHeld_44
    · refine j_bipush C dX7_takeHeld_20 (v := (-2 : Int32)) (by decide) ?_
      exact j_iretR C (r := r) (rtf := fun r => (some (.int r.1))) (wff := fun r => (oX7_takeHeld D h_t h_t_past h_t_held t_held_ r)) E h rfl rfl dX7_takeHeld_22
