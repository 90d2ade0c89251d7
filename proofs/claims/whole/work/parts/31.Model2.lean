theorem dX10_isWell_0 : decode cX10_isWell 0 = .ok (.iconst 1, 1) := by decide +kernel
theorem dX10_isWell_1 : decode cX10_isWell 1 = .ok (.istore 4, 2) := by decide +kernel
theorem dX10_isWell_3 : decode cX10_isWell 3 = .ok (.iconst 0, 1) := by decide +kernel
theorem dX10_isWell_4 : decode cX10_isWell 4 = .ok (.istore 5, 2) := by decide +kernel
theorem dX10_isWell_6 : decode cX10_isWell 6 = .ok (.iload 5, 2) := by decide +kernel
theorem dX10_isWell_8 : decode cX10_isWell 8 = .ok (.aload_n 0, 1) := by decide +kernel
theorem dX10_isWell_9 : decode cX10_isWell 9 = .ok (.getfield 91, 3) := by decide +kernel
theorem dX10_isWell_12 : decode cX10_isWell 12 = .ok (.if_icmp .ge 75, 3) := by decide +kernel
theorem dX10_isWell_15 : decode cX10_isWell 15 = .ok (.aload_n 0, 1) := by decide +kernel
theorem dX10_isWell_16 : decode cX10_isWell 16 = .ok (.getfield 30, 3) := by decide +kernel
theorem dX10_isWell_19 : decode cX10_isWell 19 = .ok (.bipush 20, 2) := by decide +kernel
theorem dX10_isWell_21 : decode cX10_isWell 21 = .ok (.iload_n 1, 1) := by decide +kernel
theorem dX10_isWell_22 : decode cX10_isWell 22 = .ok (.imul, 1) := by decide +kernel
theorem dX10_isWell_23 : decode cX10_isWell 23 = .ok (.iload 5, 2) := by decide +kernel
theorem dX10_isWell_25 : decode cX10_isWell 25 = .ok (.iadd, 1) := by decide +kernel
theorem dX10_isWell_26 : decode cX10_isWell 26 = .ok (.iaload, 1) := by decide +kernel
theorem dX10_isWell_27 : decode cX10_isWell 27 = .ok (.istore 6, 2) := by decide +kernel
theorem dX10_isWell_29 : decode cX10_isWell 29 = .ok (.iload 4, 2) := by decide +kernel
theorem dX10_isWell_31 : decode cX10_isWell 31 = .ok (.ifCond .eq 47, 3) := by decide +kernel
theorem dX10_isWell_34 : decode cX10_isWell 34 = .ok (.aload_n 0, 1) := by decide +kernel
theorem dX10_isWell_35 : decode cX10_isWell 35 = .ok (.getfield 27, 3) := by decide +kernel
theorem dX10_isWell_38 : decode cX10_isWell 38 = .ok (.iload_n 2, 1) := by decide +kernel
theorem dX10_isWell_39 : decode cX10_isWell 39 = .ok (.iaload, 1) := by decide +kernel
theorem dX10_isWell_40 : decode cX10_isWell 40 = .ok (.iload 5, 2) := by decide +kernel
theorem dX10_isWell_42 : decode cX10_isWell 42 = .ok (.ishr, 1) := by decide +kernel
theorem dX10_isWell_43 : decode cX10_isWell 43 = .ok (.iconst 1, 1) := by decide +kernel
theorem dX10_isWell_44 : decode cX10_isWell 44 = .ok (.iand, 1) := by decide +kernel
theorem dX10_isWell_45 : decode cX10_isWell 45 = .ok (.ifCond .eq 29, 3) := by decide +kernel
theorem dX10_isWell_48 : decode cX10_isWell 48 = .ok (.iload 6, 2) := by decide +kernel
theorem dX10_isWell_50 : decode cX10_isWell 50 = .ok (.ifCond .eq 24, 3) := by decide +kernel
theorem dX10_isWell_53 : decode cX10_isWell 53 = .ok (.iload 6, 2) := by decide +kernel
theorem dX10_isWell_55 : decode cX10_isWell 55 = .ok (.bipush 9, 2) := by decide +kernel
theorem dX10_isWell_57 : decode cX10_isWell 57 = .ok (.if_icmp .eq 17, 3) := by decide +kernel
theorem dX10_isWell_60 : decode cX10_isWell 60 = .ok (.aload_n 0, 1) := by decide +kernel
theorem dX10_isWell_61 : decode cX10_isWell 61 = .ok (.getfield 17, 3) := by decide +kernel
theorem dX10_isWell_64 : decode cX10_isWell 64 = .ok (.iconst 4, 1) := by decide +kernel
theorem dX10_isWell_65 : decode cX10_isWell 65 = .ok (.iload_n 3, 1) := by decide +kernel
theorem dX10_isWell_66 : decode cX10_isWell 66 = .ok (.imul, 1) := by decide +kernel
theorem dX10_isWell_67 : decode cX10_isWell 67 = .ok (.iload 6, 2) := by decide +kernel
theorem dX10_isWell_69 : decode cX10_isWell 69 = .ok (.iadd, 1) := by decide +kernel
theorem dX10_isWell_70 : decode cX10_isWell 70 = .ok (.baload, 1) := by decide +kernel
theorem dX10_isWell_71 : decode cX10_isWell 71 = .ok (.ifCond .eq 7, 3) := by decide +kernel
theorem dX10_isWell_74 : decode cX10_isWell 74 = .ok (.iconst 1, 1) := by decide +kernel
theorem dX10_isWell_75 : decode cX10_isWell 75 = .ok (.goto 4, 3) := by decide +kernel
theorem dX10_isWell_78 : decode cX10_isWell 78 = .ok (.iconst 0, 1) := by decide +kernel
theorem dX10_isWell_79 : decode cX10_isWell 79 = .ok (.istore 4, 2) := by decide +kernel
theorem dX10_isWell_81 : decode cX10_isWell 81 = .ok (.iinc 5 1, 3) := by decide +kernel
theorem dX10_isWell_84 : decode cX10_isWell 84 = .ok (.goto (-78), 3) := by decide +kernel
theorem dX10_isWell_87 : decode cX10_isWell 87 = .ok (.iload 4, 2) := by decide +kernel
theorem dX10_isWell_89 : decode cX10_isWell 89 = .ok (.ireturn, 1) := by decide +kernel
def fX10_isWell_79 (F : Nat) (t_stones : Int32) (t_touches_ : Nat → Int32) (t_beside_ : Nat → Int32) (t_slot_ : Nat → Int32) (p1 : Int32) (p2 : Int32) (p3 : Int32) (k6 : Int32 → Int32 → Option (Int32)) (x16 : Int32) (s17 : Int32) : Option (Int32) :=
(jl_let (x16 + Int32.ofInt (1)) fun v18 =>
(k6 s17 v18))
def fX10_isWell_78 (F : Nat) (t_stones : Int32) (t_touches_ : Nat → Int32) (t_beside_ : Nat → Int32) (t_slot_ : Nat → Int32) (p1 : Int32) (p2 : Int32) (p3 : Int32) (k6 : Int32 → Int32 → Option (Int32)) (x8 : Int32) : Option (Int32) :=
(fX10_isWell_79 F t_stones t_touches_ t_beside_ t_slot_ p1 p2 p3 k6 x8 ((0 : Int32)))
def fX10_isWell_74 (F : Nat) (t_stones : Int32) (t_touches_ : Nat → Int32) (t_beside_ : Nat → Int32) (t_slot_ : Nat → Int32) (p1 : Int32) (p2 : Int32) (p3 : Int32) (k6 : Int32 → Int32 → Option (Int32)) (x11 : Int32) : Option (Int32) :=
(fX10_isWell_79 F t_stones t_touches_ t_beside_ t_slot_ p1 p2 p3 k6 x11 ((1 : Int32)))
def bX10_isWell_6 (F : Nat) (t_stones : Int32) (t_touches_ : Nat → Int32) (t_beside_ : Nat → Int32) (t_slot_ : Nat → Int32) (p1 : Int32) (p2 : Int32) (p3 : Int32)  (k6 : Int32 → Int32 → Option (Int32)) (x1 : Int32) (x2 : Int32) : Option (Int32) :=
(if t_stones ≤ x2 then
(if x1 = 0 ∨ x1 = 1 then (some (x1)) else none)
else
(if ((((20 : Int32)) * p1) + x2) < 0 ∨ 240 ≤ ((((20 : Int32)) * p1) + x2).toNatClampNeg then none else
(jl_let (t_slot_ ((((20 : Int32)) * p1) + x2).toNatClampNeg) fun v6 =>
(if x1 = 0 then
(fX10_isWell_78 F t_stones t_touches_ t_beside_ t_slot_ p1 p2 p3 k6 x2)
else
(if p2 < 0 ∨ 9 ≤ p2.toNatClampNeg then none else
(if (((t_beside_ p2.toNatClampNeg) >>> (x2 &&& 31)) &&& ((1 : Int32))) = 0 then
(fX10_isWell_74 F t_stones t_touches_ t_beside_ t_slot_ p1 p2 p3 k6 x2)
else
(if v6 = 0 then
(fX10_isWell_74 F t_stones t_touches_ t_beside_ t_slot_ p1 p2 p3 k6 x2)
else
(if v6 = ((9 : Int32)) then
(fX10_isWell_74 F t_stones t_touches_ t_beside_ t_slot_ p1 p2 p3 k6 x2)
else
(if ((((4 : Int32)) * p3) + v6) < 0 ∨ 32 ≤ ((((4 : Int32)) * p3) + v6).toNatClampNeg then none else
(if (t_touches_ ((((4 : Int32)) * p3) + v6).toNatClampNeg) = 0 then
(fX10_isWell_78 F t_stones t_touches_ t_beside_ t_slot_ p1 p2 p3 k6 x2)
else
(fX10_isWell_74 F t_stones t_touches_ t_beside_ t_slot_ p1 p2 p3 k6 x2)))))))))))
def lX10_isWell_6 (F : Nat) (t_stones : Int32) (t_touches_ : Nat → Int32) (t_beside_ : Nat → Int32) (t_slot_ : Nat → Int32) (p1 : Int32) (p2 : Int32) (p3 : Int32)  (F2 : Nat) (x1 : Int32) (x2 : Int32) : Option (Int32) := jl_loop2 (bX10_isWell_6 F t_stones t_touches_ t_beside_ t_slot_ p1 p2 p3 ) F2 x1 x2
def fX10_isWell (F : Nat) (t_stones : Int32) (t_touches_ : Nat → Int32) (t_beside_ : Nat → Int32) (t_slot_ : Nat → Int32) (p1 : Int32) (p2 : Int32) (p3 : Int32) : Option (Int32) :=
(lX10_isWell_6 F t_stones t_touches_ t_beside_ t_slot_ p1 p2 p3 F ((1 : Int32)) ((0 : Int32)))
def oX10_isWell (D : jv_D) (h_t : Nat) (h_t_text : Nat) (h_t_told : Nat) (h_t_touches : Nat) (h_t_has : Nat) (h_t_old : Nat) (h_t_beside : Nat) (h_t_slot : Nat) (h_t_row : Nat) (h_t_free : Nat) (h_t_worth : Nat) (h_t_fore : Nat) (h_t_back : Nat) (h_t_got : Nat) (t_length : Int32) (t_at : Int32) (t_stones : Int32) (t_kept : Int32) (t_done : Int32) (t_rows : Int32) (t_frees : Int32) (t_fewest : Int32) (t_touches_ : Nat → Int32) (t_beside_ : Nat → Int32) (t_slot_ : Nat → Int32) (r : Int32) : va_W := [(h_t, .inr (8, [.int t_length, .ref h_t_text, .int t_at, .ref h_t_told, .ref h_t_touches, .ref h_t_has, .ref h_t_old, .ref h_t_beside, .int t_stones, .ref h_t_slot, .int t_kept, .int t_done, .int t_rows, .ref h_t_row, .ref h_t_free, .int t_frees, .ref h_t_worth, .ref h_t_fore, .ref h_t_back, .int t_fewest, .ref h_t_got])), (h_t_touches, jZ D 32 t_touches_), (h_t_beside, jI D 9 t_beside_), (h_t_slot, jI D 240 t_slot_)]
set_option maxHeartbeats 40000000 in
set_option maxRecDepth 100000 in
theorem mX10_isWell (l : Launch) (D : jv_D) (F : Nat) (h_t : Nat) (h_t_text : Nat) (h_t_told : Nat) (h_t_touches : Nat) (h_t_has : Nat) (h_t_old : Nat) (h_t_beside : Nat) (h_t_slot : Nat) (h_t_row : Nat) (h_t_free : Nat) (h_t_worth : Nat) (h_t_fore : Nat) (h_t_back : Nat) (h_t_got : Nat) (t_length : Int32) (t_at : Int32) (t_stones : Int32) (t_kept : Int32) (t_done : Int32) (t_rows : Int32) (t_frees : Int32) (t_fewest : Int32) (t_touches_ : Nat → Int32) (t_beside_ : Nat → Int32) (t_slot_ : Nat → Int32) (p1 : Int32) (p2 : Int32) (p3 : Int32) (r : Int32) (h : fX10_isWell F t_stones t_touches_ t_beside_ t_slot_ p1 p2 p3 = some r) : MM l yX10_isWell (jW yX10_isWell cX10_isWell 7 (some .boolean)) ({ frames := 0, cells := 0, slots := 0, locals := 0 }) D [.ref h_t, .int p1, .int p2, .int p3] [(h_t, .inr (8, [.int t_length, .ref h_t_text, .int t_at, .ref h_t_told, .ref h_t_touches, .ref h_t_has, .ref h_t_old, .ref h_t_beside, .int t_stones, .ref h_t_slot, .int t_kept, .int t_done, .int t_rows, .ref h_t_row, .ref h_t_free, .int t_frees, .ref h_t_worth, .ref h_t_fore, .ref h_t_back, .int t_fewest, .ref h_t_got])), (h_t_touches, jZ D 32 t_touches_), (h_t_beside, jI D 9 t_beside_), (h_t_slot, jI D 240 t_slot_)] (some (.int r)) (oX10_isWell D h_t h_t_text h_t_told h_t_touches h_t_has h_t_old h_t_beside h_t_slot h_t_row h_t_free h_t_worth h_t_fore h_t_back h_t_got t_length t_at t_stones t_kept t_done t_rows t_frees t_fewest t_touches_ t_beside_ t_slot_ r) := by
  refine mn_of hpX10_isWell (Nat.le_of_ble_eq_true rfl) ?_
  intro X hXl C E0 hN
  subst hXl
  replace C : JC D X 7 RX10 cX10_isWell ({ frames := 0, cells := 0, slots := 0, locals := 0 }) := C
  have E : JE D X 0 0 (some .boolean) (fun _ : Unit => (some (.int r))) (fun _ : Unit => (oX10_isWell D h_t h_t_text h_t_told h_t_touches h_t_has h_t_old h_t_beside h_t_slot h_t_row h_t_free h_t_worth h_t_fore h_t_back h_t_got t_length t_at t_stones t_kept t_done t_rows t_frees t_fewest t_touches_ t_beside_ t_slot_ r)) := E0 0 0 rfl rfl
  clear E0 hN
  show JJ D X 7 0 0 0 [(0, .ref h_t), (1, .int p1), (2, .int p2), (3, .int p3)] [] [(h_t, .inr (8, [.int t_length, .ref h_t_text, .int t_at, .ref h_t_told, .ref h_t_touches, .ref h_t_has, .ref h_t_old, .ref h_t_beside, .int t_stones, .ref h_t_slot, .int t_kept, .int t_done, .int t_rows, .ref h_t_row, .ref h_t_free, .int t_frees, .ref h_t_worth, .ref h_t_fore, .ref h_t_back, .int t_fewest, .ref h_t_got])), (h_t_touches, jZ D 32 t_touches_), (h_t_beside, jI D 9 t_beside_), (h_t_slot, jI D 240 t_slot_)]
  unfold fX10_isWell at h
  have L6 : ∀ (x1 : Int32) (x2 : Int32), lX10_isWell_6 F t_stones t_touches_ t_beside_ t_slot_ p1 p2 p3  F x1 x2 = some r → JJ D X 7 0 0 6 [(0, .ref h_t), (1, .int p1), (2, .int p2), (3, .int p3), (4, .int x1), (5, .int x2)] [] [(h_t, .inr (8, [.int t_length, .ref h_t_text, .int t_at, .ref h_t_told, .ref h_t_touches, .ref h_t_has, .ref h_t_old, .ref h_t_beside, .int t_stones, .ref h_t_slot, .int t_kept, .int t_done, .int t_rows, .ref h_t_row, .ref h_t_free, .int t_frees, .ref h_t_worth, .ref h_t_fore, .ref h_t_back, .int t_fewest, .ref h_t_got])), (h_t_touches, jZ D 32 t_touches_), (h_t_beside, jI D 9 t_beside_), (h_t_slot, jI D 240 t_slot_)] := by
    intro x1 x2 h
    refine jl_ind2 (fun x1 x2 => JJ D X 7 0 0 6 [(0, .ref h_t), (1, .int p1), (2, .int p2), (3, .int p3), (4, .int x1), (5, .int x2)] [] [(h_t, .inr (8, [.int t_length, .ref h_t_text, .int t_at, .ref h_t_told, .ref h_t_touches, .ref h_t_has, .ref h_t_old, .ref h_t_beside, .int t_stones, .ref h_t_slot, .int t_kept, .int t_done, .int t_rows, .ref h_t_row, .ref h_t_free, .int t_frees, .ref h_t_worth, .ref h_t_fore, .ref h_t_back, .int t_fewest, .ref h_t_got])), (h_t_touches, jZ D 32 t_touches_), (h_t_beside, jI D 9 t_beside_), (h_t_slot, jI D 240 t_slot_)]) ?_ F x1 x2 h
    clear h x1 x2
    intro k6 i6 x1 x2 h
    replace i6 : ∀ (x1 : Int32) (x2 : Int32), k6 x1 x2 = some r → JJ D X 7 0 0 6 [(0, .ref h_t), (1, .int p1), (2, .int p2), (3, .int p3), (4, .int x1), (5, .int x2)] [] [(h_t, .inr (8, [.int t_length, .ref h_t_text, .int t_at, .ref h_t_told, .ref h_t_touches, .ref h_t_has, .ref h_t_old, .ref h_t_beside, .int t_stones, .ref h_t_slot, .int t_kept, .int t_done, .int t_rows, .ref h_t_row, .ref h_t_free, .int t_frees, .ref h_t_worth, .ref h_t_fore, .ref h_t_back, .int t_fewest, .ref h_t_got])), (h_t_touches, jZ D 32 t_touches_), (h_t_beside, jI D 9 t_beside_), (h_t_slot, jI D 240 t_slot_)] := i6
    show JJ D X 7 0 0 6 [(0, .ref h_t), (1, .int p1), (2, .int p2), (3, .int p3), (4, .int x1), (5, .int x2)] [] [(h_t, .inr (8, [.int t_length, .ref h_t_text, .int t_at, .ref h_t_told, .ref h_t_touches, .ref h_t_has, .ref h_t_old, .ref h_t_beside, .int t_stones, .ref h_t_slot, .int t_kept, .int t_done, .int t_rows, .ref h_t_row, .ref h_t_free, .int t_frees, .ref h_t_worth, .ref h_t_fore, .ref h_t_back, .int t_fewest, .ref h_t_got])), (h_t_touches, jZ D 32 t_touches_), (h_t_beside, jI D 9 t_beside_), (h_t_slot, jI D 240 t_slot_)]
    unfold bX10_isWell_6 at h
    have L79 : ∀ (x16 : Int32) (s17 : Int32), fX10_isWell_79 F t_stones t_touches_ t_beside_ t_slot_ p1 p2 p3 k6 x16 s17 = some r → JJ D X 7 0 0 79 [(0, .ref h_t), (1, .int p1), (2, .int p2), (3, .int p3), (5, .int x16)] [.int s17] [(h_t, .inr (8, [.int t_length, .ref h_t_text, .int t_at, .ref h_t_told, .ref h_t_touches, .ref h_t_has, .ref h_t_old, .ref h_t_beside, .int t_stones, .ref h_t_slot, .int t_kept, .int t_done, .int t_rows, .ref h_t_row, .ref h_t_free, .int t_frees, .ref h_t_worth, .ref h_t_fore, .ref h_t_back, .int t_fewest, .ref h_t_got])), (h_t_touches, jZ D 32 t_touches_), (h_t_beside, jI D 9 t_beside_), (h_t_slot, jI D 240 t_slot_)] := by
      intro x16 s17 h
      unfold fX10_isWell_79 at h
      refine j_istoreC C dX10_isWell_79 (lv' := [(4, .int s17), (0, .ref h_t), (1, .int p1), (2, .int p2), (3, .int p3), (5, .int x16)]) (by decide) rfl ?_
      refine j_iinc C dX10_isWell_81 5 rfl (lv' := fun v18 => [(5, .int v18), (4, .int s17), (0, .ref h_t), (1, .int p1), (2, .int p2), (3, .int p3)]) (by decide) (fun _ => rfl) h (fun v18 h => ?_)
      refine j_goto C dX10_isWell_84 (tgt := 6) (by decide) ?_
      refine j_sub (lv' := [(0, .ref h_t), (1, .int p1), (2, .int p2), (3, .int p3), (4, .int s17), (5, .int v18)]) [2, 3, 4, 5, 1, 0] rfl ?_
      exact i6 s17 v18 h
    have L78 : ∀ (x8 : Int32), fX10_isWell_78 F t_stones t_touches_ t_beside_ t_slot_ p1 p2 p3 k6 x8 = some r → JJ D X 7 0 0 78 [(0, .ref h_t), (1, .int p1), (2, .int p2), (3, .int p3), (5, .int x8)] [] [(h_t, .inr (8, [.int t_length, .ref h_t_text, .int t_at, .ref h_t_told, .ref h_t_touches, .ref h_t_has, .ref h_t_old, .ref h_t_beside, .int t_stones, .ref h_t_slot, .int t_kept, .int t_done, .int t_rows, .ref h_t_row, .ref h_t_free, .int t_frees, .ref h_t_worth, .ref h_t_fore, .ref h_t_back, .int t_fewest, .ref h_t_got])), (h_t_touches, jZ D 32 t_touches_), (h_t_beside, jI D 9 t_beside_), (h_t_slot, jI D 240 t_slot_)] := by
      intro x8 h
      unfold fX10_isWell_78 at h
      refine j_iconst C dX10_isWell_78 (v := (0 : Int32)) (by decide) ?_
      refine j_sub (lv' := [(0, .ref h_t), (1, .int p1), (2, .int p2), (3, .int p3), (5, .int x8)]) [0, 1, 2, 3, 4] rfl ?_
      exact L79 x8 ((0 : Int32)) h
    have L74 : ∀ (x11 : Int32), fX10_isWell_74 F t_stones t_touches_ t_beside_ t_slot_ p1 p2 p3 k6 x11 = some r → JJ D X 7 0 0 74 [(0, .ref h_t), (1, .int p1), (2, .int p2), (3, .int p3), (5, .int x11)] [] [(h_t, .inr (8, [.int t_length, .ref h_t_text, .int t_at, .ref h_t_told, .ref h_t_touches, .ref h_t_has, .ref h_t_old, .ref h_t_beside, .int t_stones, .ref h_t_slot, .int t_kept, .int t_done, .int t_rows, .ref h_t_row, .ref h_t_free, .int t_frees, .ref h_t_worth, .ref h_t_fore, .ref h_t_back, .int t_fewest, .ref h_t_got])), (h_t_touches, jZ D 32 t_touches_), (h_t_beside, jI D 9 t_beside_), (h_t_slot, jI D 240 t_slot_)] := by
      intro x11 h
      unfold fX10_isWell_74 at h
      refine j_iconst C dX10_isWell_74 (v := (1 : Int32)) (by decide) ?_
      refine j_goto C dX10_isWell_75 (tgt := 79) (by decide) ?_
      refine j_sub (lv' := [(0, .ref h_t), (1, .int p1), (2, .int p2), (3, .int p3), (5, .int x11)]) [0, 1, 2, 3, 4] rfl ?_
      exact L79 x11 ((1 : Int32)) h
    refine j_iload C dX10_isWell_6 5 rfl ?_
    refine j_aload_n C dX10_isWell_8 rfl 0 rfl ?_
    refine j_get C ibX10 (ci := 8) 0 rfl rfl 8 (by decide) bfX10_91 (v := .int t_stones) rfl dX10_isWell_9 ?_
    refine j_icmp_ge C (tgt := 87) dX10_isWell_12 (by decide) h (fun c3 h => ?_) (fun c3 h => ?_)
    · refine j_iload C dX10_isWell_87 4 rfl ?_
      refine jl_grd2 h (fun b4 h => ?_)
      exact j_zretR C (r := r) (rtf := fun r => (some (.int r))) (wff := fun r => (oX10_isWell D h_t h_t_text h_t_told h_t_touches h_t_has h_t_old h_t_beside h_t_slot h_t_row h_t_free h_t_worth h_t_fore h_t_back h_t_got t_length t_at t_stones t_kept t_done t_rows t_frees t_fewest t_touches_ t_beside_ t_slot_ r)) E (jl_z01 b4) h rfl rfl dX10_isWell_89
    · refine j_aload_n C dX10_isWell_15 rfl 0 rfl ?_
      refine j_get C ibX10 (ci := 8) 0 rfl rfl 9 (by decide) bfX10_30 (v := .ref h_t_slot) rfl dX10_isWell_16 ?_
      refine j_bipush C dX10_isWell_19 (v := (20 : Int32)) (by decide) ?_
      refine j_iload_n C dX10_isWell_21 rfl 1 rfl ?_
      refine j_imul C dX10_isWell_22 ?_
      refine j_iload C dX10_isWell_23 5 rfl ?_
      refine j_iadd C dX10_isWell_25 ?_
      refine jl_inb h (fun b5 h => ?_)
      refine j_iald C 3 rfl b5 dX10_isWell_26 ?_
      refine j_istore C dX10_isWell_27 (lv' := fun v6 => [(6, .int v6), (0, .ref h_t), (1, .int p1), (2, .int p2), (3, .int p3), (4, .int x1), (5, .int x2)]) (by decide) (fun _ => rfl) h (fun v6 h => ?_)
      refine j_iload C dX10_isWell_29 5 rfl ?_
      refine j_if_eq C (tgt := 78) dX10_isWell_31 (by decide) h (fun c7 h => ?_) (fun c7 h => ?_)
      · refine j_sub (lv' := [(0, .ref h_t), (1, .int p1), (2, .int p2), (3, .int p3), (5, .int x2)]) [1, 2, 3, 4, 6] rfl ?_
        exact L78 x2 h
      · refine j_aload_n C dX10_isWell_34 rfl 1 rfl ?_
        refine j_get C ibX10 (ci := 8) 0 rfl rfl 7 (by decide) bfX10_27 (v := .ref h_t_beside) rfl dX10_isWell_35 ?_
        refine j_iload_n C dX10_isWell_38 rfl 3 rfl ?_
        refine jl_inb h (fun b9 h => ?_)
        refine j_iald C 2 rfl b9 dX10_isWell_39 ?_
        refine j_iload C dX10_isWell_40 6 rfl ?_
        refine j_ishr C dX10_isWell_42 ?_
        refine j_iconst C dX10_isWell_43 (v := (1 : Int32)) (by decide) ?_
        refine j_iand C dX10_isWell_44 ?_
        refine j_if_eq C (tgt := 74) dX10_isWell_45 (by decide) h (fun c10 h => ?_) (fun c10 h => ?_)
        · refine j_sub (lv' := [(0, .ref h_t), (1, .int p1), (2, .int p2), (3, .int p3), (5, .int x2)]) [1, 2, 3, 4, 6] rfl ?_
          exact L74 x2 h
        · refine j_iload C dX10_isWell_48 0 rfl ?_
          refine j_if_eq C (tgt := 74) dX10_isWell_50 (by decide) h (fun c12 h => ?_) (fun c12 h => ?_)
          · refine j_sub (lv' := [(0, .ref h_t), (1, .int p1), (2, .int p2), (3, .int p3), (5, .int x2)]) [1, 2, 3, 4, 6] rfl ?_
            exact L74 x2 h
          · refine j_iload C dX10_isWell_53 0 rfl ?_
            refine j_bipush C dX10_isWell_55 (v := (9 : Int32)) (by decide) ?_
            refine j_icmp_eq C (tgt := 74) dX10_isWell_57 (by decide) h (fun c13 h => ?_) (fun c13 h => ?_)
            · refine j_sub (lv' := [(0, .ref h_t), (1, .int p1), (2, .int p2), (3, .int p3), (5, .int x2)]) [1, 2, 3, 4, 6] rfl ?_
              exact L74 x2 h
            · refine j_aload_n C dX10_isWell_60 rfl 1 rfl ?_
              refine j_get C ibX10 (ci := 8) 0 rfl rfl 4 (by decide) bfX10_17 (v := .ref h_t_touches) rfl dX10_isWell_61 ?_
              refine j_iconst C dX10_isWell_64 (v := (4 : Int32)) (by decide) ?_
              refine j_iload_n C dX10_isWell_65 rfl 4 rfl ?_
              refine j_imul C dX10_isWell_66 ?_
              refine j_iload C dX10_isWell_67 0 rfl ?_
              refine j_iadd C dX10_isWell_69 ?_
              refine jl_inb h (fun b14 h => ?_)
              refine j_zald C 1 rfl b14 dX10_isWell_70 ?_
              refine j_if_eq C (tgt := 78) dX10_isWell_71 (by decide) h (fun c15 h => ?_) (fun c15 h => ?_)
              · refine j_sub (lv' := [(0, .ref h_t), (1, .int p1), (2, .int p2), (3, .int p3), (5, .int x2)]) [1, 2, 3, 4, 6] rfl ?_
                exact L78 x2 h
              · refine j_sub (lv' := [(0, .ref h_t), (1, .int p1), (2, .int p2), (3, .int p3), (5, .int x2)]) [1, 2, 3, 4, 6] rfl ?_
                exact L74 x2 h
  refine j_iconst C dX10_isWell_0 (v := (1 : Int32)) (by decide) ?_
  refine j_istoreC C dX10_isWell_1 (lv' := [(4, .int ((1 : Int32))), (0, .ref h_t), (1, .int p1), (2, .int p2), (3, .int p3)]) (by decide) rfl ?_
  refine j_iconst C dX10_isWell_3 (v := (0 : Int32)) (by decide) ?_
  refine j_istoreC C dX10_isWell_4 (lv' := [(5, .int ((0 : Int32))), (4, .int ((1 : Int32))), (0, .ref h_t), (1, .int p1), (2, .int p2), (3, .int p3)]) (by decide) rfl ?_
  refine j_sub (lv' := [(0, .ref h_t), (1, .int p1), (2, .int p2), (3, .int p3), (4, .int ((1 : Int32))), (5, .int ((0 : Int32)))]) [2, 3, 4, 5, 1, 0] rfl ?_
  exact L6 ((1 : Int32)) ((0 : Int32)) h
theorem dX10_isMay_0 : decode cX10_isMay 0 = .ok (.aload_n 0, 1) := by decide +kernel
theorem dX10_isMay_1 : decode cX10_isMay 1 = .ok (.getfield 30, 3) := by decide +kernel
theorem dX10_isMay_4 : decode cX10_isMay 4 = .ok (.bipush 20, 2) := by decide +kernel
theorem dX10_isMay_6 : decode cX10_isMay 6 = .ok (.iload_n 1, 1) := by decide +kernel
theorem dX10_isMay_7 : decode cX10_isMay 7 = .ok (.imul, 1) := by decide +kernel
theorem dX10_isMay_8 : decode cX10_isMay 8 = .ok (.iload_n 2, 1) := by decide +kernel
theorem dX10_isMay_9 : decode cX10_isMay 9 = .ok (.iadd, 1) := by decide +kernel
theorem dX10_isMay_10 : decode cX10_isMay 10 = .ok (.iaload, 1) := by decide +kernel
theorem dX10_isMay_11 : decode cX10_isMay 11 = .ok (.ifCond .ne 44, 3) := by decide +kernel
theorem dX10_isMay_14 : decode cX10_isMay 14 = .ok (.aload_n 0, 1) := by decide +kernel
theorem dX10_isMay_15 : decode cX10_isMay 15 = .ok (.getfield 21, 3) := by decide +kernel
theorem dX10_isMay_18 : decode cX10_isMay 18 = .ok (.aload_n 0, 1) := by decide +kernel
theorem dX10_isMay_19 : decode cX10_isMay 19 = .ok (.getfield 30, 3) := by decide +kernel
theorem dX10_isMay_22 : decode cX10_isMay 22 = .ok (.bipush 20, 2) := by decide +kernel
theorem dX10_isMay_24 : decode cX10_isMay 24 = .ok (.iload_n 1, 1) := by decide +kernel
theorem dX10_isMay_25 : decode cX10_isMay 25 = .ok (.imul, 1) := by decide +kernel
theorem dX10_isMay_26 : decode cX10_isMay 26 = .ok (.bipush 19, 2) := by decide +kernel
theorem dX10_isMay_28 : decode cX10_isMay 28 = .ok (.iadd, 1) := by decide +kernel
theorem dX10_isMay_29 : decode cX10_isMay 29 = .ok (.iaload, 1) := by decide +kernel
theorem dX10_isMay_30 : decode cX10_isMay 30 = .ok (.iaload, 1) := by decide +kernel
theorem dX10_isMay_31 : decode cX10_isMay 31 = .ok (.iload_n 3, 1) := by decide +kernel
theorem dX10_isMay_32 : decode cX10_isMay 32 = .ok (.iconst 1, 1) := by decide +kernel
theorem dX10_isMay_33 : decode cX10_isMay 33 = .ok (.isub, 1) := by decide +kernel
theorem dX10_isMay_34 : decode cX10_isMay 34 = .ok (.ishr, 1) := by decide +kernel
theorem dX10_isMay_35 : decode cX10_isMay 35 = .ok (.iconst 1, 1) := by decide +kernel
theorem dX10_isMay_36 : decode cX10_isMay 36 = .ok (.iand, 1) := by decide +kernel
theorem dX10_isMay_37 : decode cX10_isMay 37 = .ok (.iconst 1, 1) := by decide +kernel
theorem dX10_isMay_38 : decode cX10_isMay 38 = .ok (.if_icmp .ne 17, 3) := by decide +kernel
theorem dX10_isMay_41 : decode cX10_isMay 41 = .ok (.aload_n 0, 1) := by decide +kernel
theorem dX10_isMay_42 : decode cX10_isMay 42 = .ok (.iload_n 1, 1) := by decide +kernel
theorem dX10_isMay_43 : decode cX10_isMay 43 = .ok (.iload_n 2, 1) := by decide +kernel
theorem dX10_isMay_44 : decode cX10_isMay 44 = .ok (.iload_n 3, 1) := by decide +kernel
theorem dX10_isMay_45 : decode cX10_isMay 45 = .ok (.invokevirtual 123, 3) := by decide +kernel
theorem dX10_isMay_48 : decode cX10_isMay 48 = .ok (.ifCond .eq 7, 3) := by decide +kernel
theorem dX10_isMay_51 : decode cX10_isMay 51 = .ok (.iconst 1, 1) := by decide +kernel
theorem dX10_isMay_52 : decode cX10_isMay 52 = .ok (.goto 4, 3) := by decide +kernel
theorem dX10_isMay_55 : decode cX10_isMay 55 = .ok (.iconst 0, 1) := by decide +kernel
theorem dX10_isMay_56 : decode cX10_isMay 56 = .ok (.ireturn, 1) := by decide +kernel
def fX10_isMay (F : Nat) (t_stones : Int32) (t_touches_ : Nat → Int32) (t_has_ : Nat → Int32) (t_beside_ : Nat → Int32) (t_slot_ : Nat → Int32) (p1 : Int32) (p2 : Int32) (p3 : Int32) : Option (Int32) :=
(if ((((20 : Int32)) * p1) + p2) < 0 ∨ 240 ≤ ((((20 : Int32)) * p1) + p2).toNatClampNeg then none else
(if (t_slot_ ((((20 : Int32)) * p1) + p2).toNatClampNeg) = 0 then
(if ((((20 : Int32)) * p1) + ((19 : Int32))) < 0 ∨ 240 ≤ ((((20 : Int32)) * p1) + ((19 : Int32))).toNatClampNeg then none else
(if (t_slot_ ((((20 : Int32)) * p1) + ((19 : Int32))).toNatClampNeg) < 0 ∨ 4 ≤ (t_slot_ ((((20 : Int32)) * p1) + ((19 : Int32))).toNatClampNeg).toNatClampNeg then none else
(if (((t_has_ (t_slot_ ((((20 : Int32)) * p1) + ((19 : Int32))).toNatClampNeg).toNatClampNeg) >>> ((p3 - ((1 : Int32))) &&& 31)) &&& ((1 : Int32))) = ((1 : Int32)) then
((fX10_isWell F t_stones t_touches_ t_beside_ t_slot_ p1 p2 p3).bind fun r6 =>
(if r6 = 0 then
(some ((0 : Int32)))
else
(some ((1 : Int32)))))
else
(some ((0 : Int32))))))
else
(some ((0 : Int32)))))
def oX10_isMay (D : jv_D) (h_t : Nat) (h_t_text : Nat) (h_t_told : Nat) (h_t_touches : Nat) (h_t_has : Nat) (h_t_old : Nat) (h_t_beside : Nat) (h_t_slot : Nat) (h_t_row : Nat) (h_t_free : Nat) (h_t_worth : Nat) (h_t_fore : Nat) (h_t_back : Nat) (h_t_got : Nat) (t_length : Int32) (t_at : Int32) (t_stones : Int32) (t_kept : Int32) (t_done : Int32) (t_rows : Int32) (t_frees : Int32) (t_fewest : Int32) (t_touches_ : Nat → Int32) (t_has_ : Nat → Int32) (t_beside_ : Nat → Int32) (t_slot_ : Nat → Int32) (r : Int32) : va_W := [(h_t, .inr (8, [.int t_length, .ref h_t_text, .int t_at, .ref h_t_told, .ref h_t_touches, .ref h_t_has, .ref h_t_old, .ref h_t_beside, .int t_stones, .ref h_t_slot, .int t_kept, .int t_done, .int t_rows, .ref h_t_row, .ref h_t_free, .int t_frees, .ref h_t_worth, .ref h_t_fore, .ref h_t_back, .int t_fewest, .ref h_t_got])), (h_t_touches, jZ D 32 t_touches_), (h_t_has, jI D 4 t_has_), (h_t_beside, jI D 9 t_beside_), (h_t_slot, jI D 240 t_slot_)]
set_option maxHeartbeats 40000000 in
set_option maxRecDepth 100000 in
theorem mX10_isMay (l : Launch) (D : jv_D) (F : Nat) (h_t : Nat) (h_t_text : Nat) (h_t_told : Nat) (h_t_touches : Nat) (h_t_has : Nat) (h_t_old : Nat) (h_t_beside : Nat) (h_t_slot : Nat) (h_t_row : Nat) (h_t_free : Nat) (h_t_worth : Nat) (h_t_fore : Nat) (h_t_back : Nat) (h_t_got : Nat) (t_length : Int32) (t_at : Int32) (t_stones : Int32) (t_kept : Int32) (t_done : Int32) (t_rows : Int32) (t_frees : Int32) (t_fewest : Int32) (t_touches_ : Nat → Int32) (t_has_ : Nat → Int32) (t_beside_ : Nat → Int32) (t_slot_ : Nat → Int32) (p1 : Int32) (p2 : Int32) (p3 : Int32) (r : Int32) (h : fX10_isMay F t_stones t_touches_ t_has_ t_beside_ t_slot_ p1 p2 p3 = some r) : MM l yX10_isMay (jW yX10_isMay cX10_isMay 4 (some .boolean)) ({ frames := 1, cells := 0, slots := 0, locals := 26 }) D [.ref h_t, .int p1, .int p2, .int p3] [(h_t, .inr (8, [.int t_length, .ref h_t_text, .int t_at, .ref h_t_told, .ref h_t_touches, .ref h_t_has, .ref h_t_old, .ref h_t_beside, .int t_stones, .ref h_t_slot, .int t_kept, .int t_done, .int t_rows, .ref h_t_row, .ref h_t_free, .int t_frees, .ref h_t_worth, .ref h_t_fore, .ref h_t_back, .int t_fewest, .ref h_t_got])), (h_t_touches, jZ D 32 t_touches_), (h_t_has, jI D 4 t_has_), (h_t_beside, jI D 9 t_beside_), (h_t_slot, jI D 240 t_slot_)] (some (.int r)) (oX10_isMay D h_t h_t_text h_t_told h_t_touches h_t_has h_t_old h_t_beside h_t_slot h_t_row h_t_free h_t_worth h_t_fore h_t_back h_t_got t_length t_at t_stones t_kept t_done t_rows t_frees t_fewest t_touches_ t_has_ t_beside_ t_slot_ r) := by
  refine mn_of hpX10_isMay (Nat.le_of_ble_eq_true rfl) ?_
  intro X hXl C E0 hN
  subst hXl
  replace C : JC D X 4 RX10 cX10_isMay ({ frames := 1, cells := 0, slots := 0, locals := 26 }) := C
  have E : JE D X 0 0 (some .boolean) (fun _ : Unit => (some (.int r))) (fun _ : Unit => (oX10_isMay D h_t h_t_text h_t_told h_t_touches h_t_has h_t_old h_t_beside h_t_slot h_t_row h_t_free h_t_worth h_t_fore h_t_back h_t_got t_length t_at t_stones t_kept t_done t_rows t_frees t_fewest t_touches_ t_has_ t_beside_ t_slot_ r)) := E0 0 0 rfl rfl
  clear E0 hN
  show JJ D X 4 0 0 0 [(0, .ref h_t), (1, .int p1), (2, .int p2), (3, .int p3)] [] [(h_t, .inr (8, [.int t_length, .ref h_t_text, .int t_at, .ref h_t_told, .ref h_t_touches, .ref h_t_has, .ref h_t_old, .ref h_t_beside, .int t_stones, .ref h_t_slot, .int t_kept, .int t_done, .int t_rows, .ref h_t_row, .ref h_t_free, .int t_frees, .ref h_t_worth, .ref h_t_fore, .ref h_t_back, .int t_fewest, .ref h_t_got])), (h_t_touches, jZ D 32 t_touches_), (h_t_has, jI D 4 t_has_), (h_t_beside, jI D 9 t_beside_), (h_t_slot, jI D 240 t_slot_)]
  unfold fX10_isMay at h
  refine j_aload_n C dX10_isMay_0 rfl 0 rfl ?_
  refine j_get C ibX10 (ci := 8) 0 rfl rfl 9 (by decide) bfX10_30 (v := .ref h_t_slot) rfl dX10_isMay_1 ?_
  refine j_bipush C dX10_isMay_4 (v := (20 : Int32)) (by decide) ?_
  refine j_iload_n C dX10_isMay_6 rfl 1 rfl ?_
  refine j_imul C dX10_isMay_7 ?_
  refine j_iload_n C dX10_isMay_8 rfl 2 rfl ?_
  refine j_iadd C dX10_isMay_9 ?_
  refine jl_inb h (fun b1 h => ?_)
  refine j_iald C 4 rfl b1 dX10_isMay_10 ?_
  refine j_if_ne C (tgt := 55) dX10_isMay_11 (by decide) h (fun c2 h => ?_) (fun c2 h => ?_)
  · refine j_aload_n C dX10_isMay_14 rfl 0 rfl ?_
    refine j_get C ibX10 (ci := 8) 0 rfl rfl 5 (by decide) bfX10_21 (v := .ref h_t_has) rfl dX10_isMay_15 ?_
    refine j_aload_n C dX10_isMay_18 rfl 0 rfl ?_
    refine j_get C ibX10 (ci := 8) 0 rfl rfl 9 (by decide) bfX10_30 (v := .ref h_t_slot) rfl dX10_isMay_19 ?_
    refine j_bipush C dX10_isMay_22 (v := (20 : Int32)) (by decide) ?_
    refine j_iload_n C dX10_isMay_24 rfl 1 rfl ?_
    refine j_imul C dX10_isMay_25 ?_
    refine j_bipush C dX10_isMay_26 (v := (19 : Int32)) (by decide) ?_
    refine j_iadd C dX10_isMay_28 ?_
    refine jl_inb h (fun b3 h => ?_)
    refine j_iald C 4 rfl b3 dX10_isMay_29 ?_
    refine jl_inb h (fun b4 h => ?_)
    refine j_iald C 2 rfl b4 dX10_isMay_30 ?_
    refine j_iload_n C dX10_isMay_31 rfl 3 rfl ?_
    refine j_iconst C dX10_isMay_32 (v := (1 : Int32)) (by decide) ?_
    refine j_isub C dX10_isMay_33 ?_
    refine j_ishr C dX10_isMay_34 ?_
    refine j_iconst C dX10_isMay_35 (v := (1 : Int32)) (by decide) ?_
    refine j_iand C dX10_isMay_36 ?_
    refine j_iconst C dX10_isMay_37 (v := (1 : Int32)) (by decide) ?_
    refine j_icmp_ne C (tgt := 55) dX10_isMay_38 (by decide) h (fun c5 h => ?_) (fun c5 h => ?_)
    · refine j_aload_n C dX10_isMay_41 rfl 0 rfl ?_
      refine j_iload_n C dX10_isMay_42 rfl 1 rfl ?_
      refine j_iload_n C dX10_isMay_43 rfl 2 rfl ?_
      refine j_iload_n C dX10_isMay_44 rfl 3 rfl ?_
      obtain ⟨r6, q7, h⟩ := jl_bind h
      refine j_cV1 C (mX10_isWell (jlaunch X) D F h_t h_t_text h_t_told h_t_touches h_t_has h_t_old h_t_beside h_t_slot h_t_row h_t_free h_t_worth h_t_fore h_t_back h_t_got t_length t_at t_stones t_kept t_done t_rows t_frees t_fewest t_touches_ t_beside_ t_slot_ p1 p2 p3 r6 q7) bmX10_123 biX10_isWell bsX10_isWell bzX10 bcX10_isWell rfl hX10_isWell (rest := []) rfl (jroom_of rfl) 0 (ci := 8) rfl rfl rfl [0, 1, 3, 4] [2] [1, 2, 0, 3, 4] (wr := [(h_t_has, jI D 4 t_has_)]) (ws2 := [(h_t, .inr (8, [.int t_length, .ref h_t_text, .int t_at, .ref h_t_told, .ref h_t_touches, .ref h_t_has, .ref h_t_old, .ref h_t_beside, .int t_stones, .ref h_t_slot, .int t_kept, .int t_done, .int t_rows, .ref h_t_row, .ref h_t_free, .int t_frees, .ref h_t_worth, .ref h_t_fore, .ref h_t_back, .int t_fewest, .ref h_t_got])), (h_t_touches, jZ D 32 t_touches_), (h_t_has, jI D 4 t_has_), (h_t_beside, jI D 9 t_beside_), (h_t_slot, jI D 240 t_slot_)]) rfl rfl rfl rfl rfl (Nat.le_of_ble_eq_true rfl) dX10_isMay_45 ?_
      refine j_if_eq C (tgt := 55) dX10_isMay_48 (by decide) h (fun c8 h => ?_) (fun c8 h => ?_)
      · refine j_iconst C dX10_isMay_55 (v := (0 : Int32)) (by decide) ?_
        exact j_zretR C (r := r) (rtf := fun r => (some (.int r))) (wff := fun r => (oX10_isMay D h_t h_t_text h_t_told h_t_touches h_t_has h_t_old h_t_beside h_t_slot h_t_row h_t_free h_t_worth h_t_fore h_t_back h_t_got t_length t_at t_stones t_kept t_done t_rows t_frees t_fewest t_touches_ t_has_ t_beside_ t_slot_ r)) E rfl h rfl rfl dX10_isMay_56
      · refine j_iconst C dX10_isMay_51 (v := (1 : Int32)) (by decide) ?_
        refine j_goto C dX10_isMay_52 (tgt := 56) (by decide) ?_
        exact j_zretR C (r := r) (rtf := fun r => (some (.int r))) (wff := fun r => (oX10_isMay D h_t h_t_text h_t_told h_t_touches h_t_has h_t_old h_t_beside h_t_slot h_t_row h_t_free h_t_worth h_t_fore h_t_back h_t_got t_length t_at t_stones t_kept t_done t_rows t_frees t_fewest t_touches_ t_has_ t_beside_ t_slot_ r)) E rfl h rfl rfl dX10_isMay_56
    · refine j_iconst C dX10_isMay_55 (v := (0 : Int32)) (by decide) ?_
      exact j_zretR C (r := r) (rtf := fun r => (some (.int r))) (wff := fun r => (oX10_isMay D h_t h_t_text h_t_told h_t_touches h_t_has h_t_old h_t_beside h_t_slot h_t_row h_t_free h_t_worth h_t_fore h_t_back h_t_got t_length t_at t_stones t_kept t_done t_rows t_frees t_fewest t_touches_ t_has_ t_beside_ t_slot_ r)) E rfl h rfl rfl dX10_isMay_56
  · refine j_iconst C dX10_isMay_55 (v := (0 : Int32)) (by decide) ?_
    exact j_zretR C (r := r) (rtf := fun r => (some (.int r))) (wff := fun r => (oX10_isMay D h_t h_t_text h_t_told h_t_touches h_t_has h_t_old h_t_beside h_t_slot h_t_row h_t_free h_t_worth h_t_fore h_t_back h_t_got t_length t_at t_stones t_kept t_done t_rows t_frees t_fewest t_touches_ t_has_ t_beside_ t_slot_ r)) E rfl h rfl rfl dX10_isMay_56
theorem dX10_may_0 : decode cX10_may 0 = .ok (.aload_n 0, 1) := by decide +kernel
theorem dX10_may_1 : decode cX10_may 1 = .ok (.iload_n 1, 1) := by decide +kernel
theorem dX10_may_2 : decode cX10_may 2 = .ok (.invokevirtual 117, 3) := by decide +kernel
theorem dX10_may_5 : decode cX10_may 5 = .ok (.ifCond .ne 5, 3) := by decide +kernel
theorem dX10_may_8 : decode cX10_may 8 = .ok (.iconst (-1), 1) := by decide +kernel
theorem dX10_may_9 : decode cX10_may 9 = .ok (.ireturn, 1) := by decide +kernel
theorem dX10_may_10 : decode cX10_may 10 = .ok (.iconst 0, 1) := by decide +kernel
theorem dX10_may_11 : decode cX10_may 11 = .ok (.istore_n 2, 1) := by decide +kernel
theorem dX10_may_12 : decode cX10_may 12 = .ok (.iconst 1, 1) := by decide +kernel
theorem dX10_may_13 : decode cX10_may 13 = .ok (.istore_n 3, 1) := by decide +kernel
theorem dX10_may_14 : decode cX10_may 14 = .ok (.iload_n 3, 1) := by decide +kernel
theorem dX10_may_15 : decode cX10_may 15 = .ok (.aload_n 0, 1) := by decide +kernel
theorem dX10_may_16 : decode cX10_may 16 = .ok (.getfield 13, 3) := by decide +kernel
theorem dX10_may_19 : decode cX10_may 19 = .ok (.iconst 2, 1) := by decide +kernel
theorem dX10_may_20 : decode cX10_may 20 = .ok (.iaload, 1) := by decide +kernel
theorem dX10_may_21 : decode cX10_may 21 = .ok (.if_icmp .gt 31, 3) := by decide +kernel
theorem dX10_may_24 : decode cX10_may 24 = .ok (.iload_n 2, 1) := by decide +kernel
theorem dX10_may_25 : decode cX10_may 25 = .ok (.aload_n 0, 1) := by decide +kernel
theorem dX10_may_26 : decode cX10_may 26 = .ok (.iconst 0, 1) := by decide +kernel
theorem dX10_may_27 : decode cX10_may 27 = .ok (.iload_n 1, 1) := by decide +kernel
theorem dX10_may_28 : decode cX10_may 28 = .ok (.iload_n 3, 1) := by decide +kernel
theorem dX10_may_29 : decode cX10_may 29 = .ok (.invokevirtual 127, 3) := by decide +kernel
theorem dX10_may_32 : decode cX10_may 32 = .ok (.ifCond .eq 11, 3) := by decide +kernel
theorem dX10_may_35 : decode cX10_may 35 = .ok (.iconst 1, 1) := by decide +kernel
theorem dX10_may_36 : decode cX10_may 36 = .ok (.iload_n 3, 1) := by decide +kernel
theorem dX10_may_37 : decode cX10_may 37 = .ok (.iconst 1, 1) := by decide +kernel
theorem dX10_may_38 : decode cX10_may 38 = .ok (.isub, 1) := by decide +kernel
theorem dX10_may_39 : decode cX10_may 39 = .ok (.ishl, 1) := by decide +kernel
theorem dX10_may_40 : decode cX10_may 40 = .ok (.goto 4, 3) := by decide +kernel
theorem dX10_may_43 : decode cX10_may 43 = .ok (.iconst 0, 1) := by decide +kernel
theorem dX10_may_44 : decode cX10_may 44 = .ok (.ior, 1) := by decide +kernel
theorem dX10_may_45 : decode cX10_may 45 = .ok (.istore_n 2, 1) := by decide +kernel
theorem dX10_may_46 : decode cX10_may 46 = .ok (.iinc 3 1, 3) := by decide +kernel
theorem dX10_may_49 : decode cX10_may 49 = .ok (.goto (-35), 3) := by decide +kernel
theorem dX10_may_52 : decode cX10_may 52 = .ok (.iload_n 2, 1) := by decide +kernel
theorem dX10_may_53 : decode cX10_may 53 = .ok (.ireturn, 1) := by decide +kernel
def fX10_may_44 (F : Nat) (t_stones : Int32) (t_told_ : Nat → Int32) (t_touches_ : Nat → Int32) (t_has_ : Nat → Int32) (t_beside_ : Nat → Int32) (t_slot_ : Nat → Int32) (p1 : Int32) (k14 : Int32 → Int32 → Option (Int32)) (x10 : Int32) (s11 : Int32) (s12 : Int32) : Option (Int32) :=
(jl_let (s12 ||| s11) fun v13 =>
(jl_let (x10 + Int32.ofInt (1)) fun v14 =>
(k14 v13 v14)))
def bX10_may_14 (F : Nat) (t_stones : Int32) (t_told_ : Nat → Int32) (t_touches_ : Nat → Int32) (t_has_ : Nat → Int32) (t_beside_ : Nat → Int32) (t_slot_ : Nat → Int32) (p1 : Int32)  (k14 : Int32 → Int32 → Option (Int32)) (x4 : Int32) (x5 : Int32) : Option (Int32) :=
(if (t_told_ ((2 : Int32)).toNatClampNeg) < x5 then
(some (x4))
else
((fX10_isMay F t_stones t_touches_ t_has_ t_beside_ t_slot_ ((0 : Int32)) p1 x5).bind fun r7 =>
(if r7 = 0 then
(fX10_may_44 F t_stones t_told_ t_touches_ t_has_ t_beside_ t_slot_ p1 k14 x5 ((0 : Int32)) x4)
else
(fX10_may_44 F t_stones t_told_ t_touches_ t_has_ t_beside_ t_slot_ p1 k14 x5 (((1 : Int32)) <<< ((x5 - ((1 : Int32))) &&& 31)) x4))))
def lX10_may_14 (F : Nat) (t_stones : Int32) (t_told_ : Nat → Int32) (t_touches_ : Nat → Int32) (t_has_ : Nat → Int32) (t_beside_ : Nat → Int32) (t_slot_ : Nat → Int32) (p1 : Int32)  (F2 : Nat) (x4 : Int32) (x5 : Int32) : Option (Int32) := jl_loop2 (bX10_may_14 F t_stones t_told_ t_touches_ t_has_ t_beside_ t_slot_ p1 ) F2 x4 x5
def fX10_may (F : Nat) (t_stones : Int32) (t_told_ : Nat → Int32) (t_touches_ : Nat → Int32) (t_has_ : Nat → Int32) (t_beside_ : Nat → Int32) (t_slot_ : Nat → Int32) (p1 : Int32) : Option (Int32) :=
((fX10_isStone t_stones p1).bind fun r1 =>
(if r1 = 0 then
(some ((-1 : Int32)))
else
(lX10_may_14 F t_stones t_told_ t_touches_ t_has_ t_beside_ t_slot_ p1 F ((0 : Int32)) ((1 : Int32)))))
def oX10_may (D : jv_D) (h_t : Nat) (h_t_text : Nat) (h_t_told : Nat) (h_t_touches : Nat) (h_t_has : Nat) (h_t_old : Nat) (h_t_beside : Nat) (h_t_slot : Nat) (h_t_row : Nat) (h_t_free : Nat) (h_t_worth : Nat) (h_t_fore : Nat) (h_t_back : Nat) (h_t_got : Nat) (t_length : Int32) (t_at : Int32) (t_stones : Int32) (t_kept : Int32) (t_done : Int32) (t_rows : Int32) (t_frees : Int32) (t_fewest : Int32) (t_told_ : Nat → Int32) (t_touches_ : Nat → Int32) (t_has_ : Nat → Int32) (t_beside_ : Nat → Int32) (t_slot_ : Nat → Int32) (r : Int32) : va_W := [(h_t, .inr (8, [.int t_length, .ref h_t_text, .int t_at, .ref h_t_told, .ref h_t_touches, .ref h_t_has, .ref h_t_old, .ref h_t_beside, .int t_stones, .ref h_t_slot, .int t_kept, .int t_done, .int t_rows, .ref h_t_row, .ref h_t_free, .int t_frees, .ref h_t_worth, .ref h_t_fore, .ref h_t_back, .int t_fewest, .ref h_t_got])), (h_t_told, jI D 8 t_told_), (h_t_touches, jZ D 32 t_touches_), (h_t_has, jI D 4 t_has_), (h_t_beside, jI D 9 t_beside_), (h_t_slot, jI D 240 t_slot_)]
set_option maxHeartbeats 40000000 in
set_option maxRecDepth 100000 in
theorem mX10_may (l : Launch) (D : jv_D) (F : Nat) (h_t : Nat) (h_t_text : Nat) (h_t_told : Nat) (h_t_touches : Nat) (h_t_has : Nat) (h_t_old : Nat) (h_t_beside : Nat) (h_t_slot : Nat) (h_t_row : Nat) (h_t_free : Nat) (h_t_worth : Nat) (h_t_fore : Nat) (h_t_back : Nat) (h_t_got : Nat) (t_length : Int32) (t_at : Int32) (t_stones : Int32) (t_kept : Int32) (t_done : Int32) (t_rows : Int32) (t_frees : Int32) (t_fewest : Int32) (t_told_ : Nat → Int32) (t_touches_ : Nat → Int32) (t_has_ : Nat → Int32) (t_beside_ : Nat → Int32) (t_slot_ : Nat → Int32) (p1 : Int32) (r : Int32) (h : fX10_may F t_stones t_told_ t_touches_ t_has_ t_beside_ t_slot_ p1 = some r) : MM l yX10_may (jW yX10_may cX10_may 4 (some .int)) ({ frames := 2, cells := 0, slots := 0, locals := 49 }) D [.ref h_t, .int p1] [(h_t, .inr (8, [.int t_length, .ref h_t_text, .int t_at, .ref h_t_told, .ref h_t_touches, .ref h_t_has, .ref h_t_old, .ref h_t_beside, .int t_stones, .ref h_t_slot, .int t_kept, .int t_done, .int t_rows, .ref h_t_row, .ref h_t_free, .int t_frees, .ref h_t_worth, .ref h_t_fore, .ref h_t_back, .int t_fewest, .ref h_t_got])), (h_t_told, jI D 8 t_told_), (h_t_touches, jZ D 32 t_touches_), (h_t_has, jI D 4 t_has_), (h_t_beside, jI D 9 t_beside_), (h_t_slot, jI D 240 t_slot_)] (some (.int r)) (oX10_may D h_t h_t_text h_t_told h_t_touches h_t_has h_t_old h_t_beside h_t_slot h_t_row h_t_free h_t_worth h_t_fore h_t_back h_t_got t_length t_at t_stones t_kept t_done t_rows t_frees t_fewest t_told_ t_touches_ t_has_ t_beside_ t_slot_ r) := by
  refine mn_of hpX10_may (Nat.le_of_ble_eq_true rfl) ?_
  intro X hXl C E0 hN
  subst hXl
  replace C : JC D X 4 RX10 cX10_may ({ frames := 2, cells := 0, slots := 0, locals := 49 }) := C
  have E : JE D X 0 0 (some .int) (fun _ : Unit => (some (.int r))) (fun _ : Unit => (oX10_may D h_t h_t_text h_t_told h_t_touches h_t_has h_t_old h_t_beside h_t_slot h_t_row h_t_free h_t_worth h_t_fore h_t_back h_t_got t_length t_at t_stones t_kept t_done t_rows t_frees t_fewest t_told_ t_touches_ t_has_ t_beside_ t_slot_ r)) := E0 0 0 rfl rfl
  clear E0 hN
  show JJ D X 4 0 0 0 [(0, .ref h_t), (1, .int p1)] [] [(h_t, .inr (8, [.int t_length, .ref h_t_text, .int t_at, .ref h_t_told, .ref h_t_touches, .ref h_t_has, .ref h_t_old, .ref h_t_beside, .int t_stones, .ref h_t_slot, .int t_kept, .int t_done, .int t_rows, .ref h_t_row, .ref h_t_free, .int t_frees, .ref h_t_worth, .ref h_t_fore, .ref h_t_back, .int t_fewest, .ref h_t_got])), (h_t_told, jI D 8 t_told_), (h_t_touches, jZ D 32 t_touches_), (h_t_has, jI D 4 t_has_), (h_t_beside, jI D 9 t_beside_), (h_t_slot, jI D 240 t_slot_)]
  unfold fX10_may at h
  have L14 : ∀ (x4 : Int32) (x5 : Int32), lX10_may_14 F t_stones t_told_ t_touches_ t_has_ t_beside_ t_slot_ p1  F x4 x5 = some r → JJ D X 4 0 0 14 [(0, .ref h_t), (1, .int p1), (2, .int x4), (3, .int x5)] [] [(h_t, .inr (8, [.int t_length, .ref h_t_text, .int t_at, .ref h_t_told, .ref h_t_touches, .ref h_t_has, .ref h_t_old, .ref h_t_beside, .int t_stones, .ref h_t_slot, .int t_kept, .int t_done, .int t_rows, .ref h_t_row, .ref h_t_free, .int t_frees, .ref h_t_worth, .ref h_t_fore, .ref h_t_back, .int t_fewest, .ref h_t_got])), (h_t_told, jI D 8 t_told_), (h_t_touches, jZ D 32 t_touches_), (h_t_has, jI D 4 t_has_), (h_t_beside, jI D 9 t_beside_), (h_t_slot, jI D 240 t_slot_)] := by
    intro x4 x5 h
    refine jl_ind2 (fun x4 x5 => JJ D X 4 0 0 14 [(0, .ref h_t), (1, .int p1), (2, .int x4), (3, .int x5)] [] [(h_t, .inr (8, [.int t_length, .ref h_t_text, .int t_at, .ref h_t_told, .ref h_t_touches, .ref h_t_has, .ref h_t_old, .ref h_t_beside, .int t_stones, .ref h_t_slot, .int t_kept, .int t_done, .int t_rows, .ref h_t_row, .ref h_t_free, .int t_frees, .ref h_t_worth, .ref h_t_fore, .ref h_t_back, .int t_fewest, .ref h_t_got])), (h_t_told, jI D 8 t_told_), (h_t_touches, jZ D 32 t_touches_), (h_t_has, jI D 4 t_has_), (h_t_beside, jI D 9 t_beside_), (h_t_slot, jI D 240 t_slot_)]) ?_ F x4 x5 h
    clear h x4 x5
    intro k14 i14 x4 x5 h
    replace i14 : ∀ (x4 : Int32) (x5 : Int32), k14 x4 x5 = some r → JJ D X 4 0 0 14 [(0, .ref h_t), (1, .int p1), (2, .int x4), (3, .int x5)] [] [(h_t, .inr (8, [.int t_length, .ref h_t_text, .int t_at, .ref h_t_told, .ref h_t_touches, .ref h_t_has, .ref h_t_old, .ref h_t_beside, .int t_stones, .ref h_t_slot, .int t_kept, .int t_done, .int t_rows, .ref h_t_row, .ref h_t_free, .int t_frees, .ref h_t_worth, .ref h_t_fore, .ref h_t_back, .int t_fewest, .ref h_t_got])), (h_t_told, jI D 8 t_told_), (h_t_touches, jZ D 32 t_touches_), (h_t_has, jI D 4 t_has_), (h_t_beside, jI D 9 t_beside_), (h_t_slot, jI D 240 t_slot_)] := i14
    show JJ D X 4 0 0 14 [(0, .ref h_t), (1, .int p1), (2, .int x4), (3, .int x5)] [] [(h_t, .inr (8, [.int t_length, .ref h_t_text, .int t_at, .ref h_t_told, .ref h_t_touches, .ref h_t_has, .ref h_t_old, .ref h_t_beside, .int t_stones, .ref h_t_slot, .int t_kept, .int t_done, .int t_rows, .ref h_t_row, .ref h_t_free, .int t_frees, .ref h_t_worth, .ref h_t_fore, .ref h_t_back, .int t_fewest, .ref h_t_got])), (h_t_told, jI D 8 t_told_), (h_t_touches, jZ D 32 t_touches_), (h_t_has, jI D 4 t_has_), (h_t_beside, jI D 9 t_beside_), (h_t_slot, jI D 240 t_slot_)]
    unfold bX10_may_14 at h
    have L44 : ∀ (x10 : Int32) (s11 : Int32) (s12 : Int32), fX10_may_44 F t_stones t_told_ t_touches_ t_has_ t_beside_ t_slot_ p1 k14 x10 s11 s12 = some r → JJ D X 4 0 0 44 [(0, .ref h_t), (1, .int p1), (3, .int x10)] [.int s11, .int s12] [(h_t, .inr (8, [.int t_length, .ref h_t_text, .int t_at, .ref h_t_told, .ref h_t_touches, .ref h_t_has, .ref h_t_old, .ref h_t_beside, .int t_stones, .ref h_t_slot, .int t_kept, .int t_done, .int t_rows, .ref h_t_row, .ref h_t_free, .int t_frees, .ref h_t_worth, .ref h_t_fore, .ref h_t_back, .int t_fewest, .ref h_t_got])), (h_t_told, jI D 8 t_told_), (h_t_touches, jZ D 32 t_touches_), (h_t_has, jI D 4 t_has_), (h_t_beside, jI D 9 t_beside_), (h_t_slot, jI D 240 t_slot_)] := by
      intro x10 s11 s12 h
      unfold fX10_may_44 at h
      refine j_ior C dX10_may_44 ?_
      refine j_istore_n C dX10_may_45 rfl (lv' := fun v13 => [(2, .int v13), (0, .ref h_t), (1, .int p1), (3, .int x10)]) (by decide) (fun _ => rfl) h (fun v13 h => ?_)
      refine j_iinc C dX10_may_46 3 rfl (lv' := fun v14 => [(3, .int v14), (2, .int v13), (0, .ref h_t), (1, .int p1)]) (by decide) (fun _ => rfl) h (fun v14 h => ?_)
      refine j_goto C dX10_may_49 (tgt := 14) (by decide) ?_
      refine j_sub (lv' := [(0, .ref h_t), (1, .int p1), (2, .int v13), (3, .int v14)]) [2, 3, 1, 0] rfl ?_
      exact i14 v13 v14 h
    refine j_iload_n C dX10_may_14 rfl 3 rfl ?_
    refine j_aload_n C dX10_may_15 rfl 0 rfl ?_
    refine j_get C ibX10 (ci := 8) 0 rfl rfl 3 (by decide) bfX10_13 (v := .ref h_t_told) rfl dX10_may_16 ?_
    refine j_iconst C dX10_may_19 (v := (2 : Int32)) (by decide) ?_
    refine j_iald C 1 rfl (by unfold vp_in; decide) dX10_may_20 ?_
    refine j_icmp_gt C (tgt := 52) dX10_may_21 (by decide) h (fun c6 h => ?_) (fun c6 h => ?_)
    · refine j_iload_n C dX10_may_52 rfl 2 rfl ?_
      exact j_iretR C (r := r) (rtf := fun r => (some (.int r))) (wff := fun r => (oX10_may D h_t h_t_text h_t_told h_t_touches h_t_has h_t_old h_t_beside h_t_slot h_t_row h_t_free h_t_worth h_t_fore h_t_back h_t_got t_length t_at t_stones t_kept t_done t_rows t_frees t_fewest t_told_ t_touches_ t_has_ t_beside_ t_slot_ r)) E h rfl rfl dX10_may_53
    · refine j_iload_n C dX10_may_24 rfl 2 rfl ?_
      refine j_aload_n C dX10_may_25 rfl 0 rfl ?_
      refine j_iconst C dX10_may_26 (v := (0 : Int32)) (by decide) ?_
      refine j_iload_n C dX10_may_27 rfl 1 rfl ?_
      refine j_iload_n C dX10_may_28 rfl 3 rfl ?_
      obtain ⟨r7, q8, h⟩ := jl_bind h
      refine j_cV1 C (mX10_isMay (jlaunch X) D F h_t h_t_text h_t_told h_t_touches h_t_has h_t_old h_t_beside h_t_slot h_t_row h_t_free h_t_worth h_t_fore h_t_back h_t_got t_length t_at t_stones t_kept t_done t_rows t_frees t_fewest t_touches_ t_has_ t_beside_ t_slot_ ((0 : Int32)) p1 x5 r7 q8) bmX10_127 biX10_isMay bsX10_isMay bzX10 bcX10_isMay rfl hX10_isMay (rest := [.int x4]) rfl (jroom_of rfl) 0 (ci := 8) rfl rfl rfl [0, 2, 3, 4, 5] [1] [1, 0, 2, 3, 4, 5] (wr := [(h_t_told, jI D 8 t_told_)]) (ws2 := [(h_t, .inr (8, [.int t_length, .ref h_t_text, .int t_at, .ref h_t_told, .ref h_t_touches, .ref h_t_has, .ref h_t_old, .ref h_t_beside, .int t_stones, .ref h_t_slot, .int t_kept, .int t_done, .int t_rows, .ref h_t_row, .ref h_t_free, .int t_frees, .ref h_t_worth, .ref h_t_fore, .ref h_t_back, .int t_fewest, .ref h_t_got])), (h_t_told, jI D 8 t_told_), (h_t_touches, jZ D 32 t_touches_), (h_t_has, jI D 4 t_has_), (h_t_beside, jI D 9 t_beside_), (h_t_slot, jI D 240 t_slot_)]) rfl rfl rfl rfl rfl (Nat.le_of_ble_eq_true rfl) dX10_may_29 ?_
      refine j_if_eq C (tgt := 43) dX10_may_32 (by decide) h (fun c9 h => ?_) (fun c9 h => ?_)
      · refine j_iconst C dX10_may_43 (v := (0 : Int32)) (by decide) ?_
        refine j_sub (lv' := [(0, .ref h_t), (1, .int p1), (3, .int x5)]) [0, 1, 3] rfl ?_
        exact L44 x5 ((0 : Int32)) x4 h
      · refine j_iconst C dX10_may_35 (v := (1 : Int32)) (by decide) ?_
        refine j_iload_n C dX10_may_36 rfl 3 rfl ?_
        refine j_iconst C dX10_may_37 (v := (1 : Int32)) (by decide) ?_
        refine j_isub C dX10_may_38 ?_
        refine j_ishl C dX10_may_39 ?_
        refine j_goto C dX10_may_40 (tgt := 44) (by decide) ?_
        refine j_sub (lv' := [(0, .ref h_t), (1, .int p1), (3, .int x5)]) [0, 1, 3] rfl ?_
        exact L44 x5 (((1 : Int32)) <<< ((x5 - ((1 : Int32))) &&& 31)) x4 h
  refine j_aload_n C dX10_may_0 rfl 0 rfl ?_
  refine j_iload_n C dX10_may_1 rfl 1 rfl ?_
  obtain ⟨r1, q2, h⟩ := jl_bind h
  refine j_cV1 C (mX10_isStone (jlaunch X) D h_t h_t_text h_t_told h_t_touches h_t_has h_t_old h_t_beside h_t_slot h_t_row h_t_free h_t_worth h_t_fore h_t_back h_t_got t_length t_at t_stones t_kept t_done t_rows t_frees t_fewest p1 r1 q2) bmX10_117 biX10_isStone bsX10_isStone bzX10 bcX10_isStone rfl hX10_isStone (rest := []) rfl (jroom_of rfl) 0 (ci := 8) rfl rfl rfl [0] [1, 2, 3, 4, 5] [5, 0, 1, 2, 3, 4] (wr := [(h_t_told, jI D 8 t_told_), (h_t_touches, jZ D 32 t_touches_), (h_t_has, jI D 4 t_has_), (h_t_beside, jI D 9 t_beside_), (h_t_slot, jI D 240 t_slot_)]) (ws2 := [(h_t, .inr (8, [.int t_length, .ref h_t_text, .int t_at, .ref h_t_told, .ref h_t_touches, .ref h_t_has, .ref h_t_old, .ref h_t_beside, .int t_stones, .ref h_t_slot, .int t_kept, .int t_done, .int t_rows, .ref h_t_row, .ref h_t_free, .int t_frees, .ref h_t_worth, .ref h_t_fore, .ref h_t_back, .int t_fewest, .ref h_t_got])), (h_t_told, jI D 8 t_told_), (h_t_touches, jZ D 32 t_touches_), (h_t_has, jI D 4 t_has_), (h_t_beside, jI D 9 t_beside_), (h_t_slot, jI D 240 t_slot_)]) rfl rfl rfl rfl rfl (Nat.le_of_ble_eq_true rfl) dX10_may_2 ?_
  refine j_if_ne C (tgt := 10) dX10_may_5 (by decide) h (fun c3 h => ?_) (fun c3 h => ?_)
  · refine j_iconst C dX10_may_8 (v := (-1 : Int32)) (by decide) ?_
    exact j_iretR C (r := r) (rtf := fun r => (some (.int r))) (wff := fun r => (oX10_may D h_t h_t_text h_t_told h_t_touches h_t_has h_t_old h_t_beside h_t_slot h_t_row h_t_free h_t_worth h_t_fore h_t_back h_t_got t_length t_at t_stones t_kept t_done t_rows t_frees t_fewest t_told_ t_touches_ t_has_ t_beside_ t_slot_ r)) E h rfl rfl dX10_may_9
  · refine j_iconst C dX10_may_10 (v := (0 : Int32)) (by decide) ?_
    refine j_istore_nC C dX10_may_11 rfl (lv' := [(2, .int ((0 : Int32))), (0, .ref h_t), (1, .int p1)]) (by decide) rfl ?_
    refine j_iconst C dX10_may_12 (v := (1 : Int32)) (by decide) ?_
    refine j_istore_nC C dX10_may_13 rfl (lv' := [(3, .int ((1 : Int32))), (2, .int ((0 : Int32))), (0, .ref h_t), (1, .int p1)]) (by decide) rfl ?_
    refine j_sub (lv' := [(0, .ref h_t), (1, .int p1), (2, .int ((0 : Int32))), (3, .int ((1 : Int32)))]) [2, 3, 1, 0] rfl ?_
    exact L14 ((0 : Int32)) ((1 : Int32)) h
theorem dX10_mays_0 : decode cX10_mays 0 = .ok (.iconst 0, 1) := by decide +kernel
theorem dX10_mays_1 : decode cX10_mays 1 = .ok (.istore_n 2, 1) := by decide +kernel
theorem dX10_mays_2 : decode cX10_mays 2 = .ok (.iconst 0, 1) := by decide +kernel
theorem dX10_mays_3 : decode cX10_mays 3 = .ok (.istore_n 3, 1) := by decide +kernel
theorem dX10_mays_4 : decode cX10_mays 4 = .ok (.iload_n 3, 1) := by decide +kernel
theorem dX10_mays_5 : decode cX10_mays 5 = .ok (.aload_n 0, 1) := by decide +kernel
theorem dX10_mays_6 : decode cX10_mays 6 = .ok (.getfield 91, 3) := by decide +kernel
theorem dX10_mays_9 : decode cX10_mays 9 = .ok (.if_icmp .ge 48, 3) := by decide +kernel
theorem dX10_mays_12 : decode cX10_mays 12 = .ok (.iconst 1, 1) := by decide +kernel
theorem dX10_mays_13 : decode cX10_mays 13 = .ok (.istore 4, 2) := by decide +kernel
theorem dX10_mays_15 : decode cX10_mays 15 = .ok (.iload 4, 2) := by decide +kernel
theorem dX10_mays_17 : decode cX10_mays 17 = .ok (.aload_n 0, 1) := by decide +kernel
theorem dX10_mays_18 : decode cX10_mays 18 = .ok (.getfield 13, 3) := by decide +kernel
theorem dX10_mays_21 : decode cX10_mays 21 = .ok (.iconst 2, 1) := by decide +kernel
theorem dX10_mays_22 : decode cX10_mays 22 = .ok (.iaload, 1) := by decide +kernel
theorem dX10_mays_23 : decode cX10_mays 23 = .ok (.if_icmp .gt 28, 3) := by decide +kernel
theorem dX10_mays_26 : decode cX10_mays 26 = .ok (.iload_n 2, 1) := by decide +kernel
theorem dX10_mays_27 : decode cX10_mays 27 = .ok (.aload_n 0, 1) := by decide +kernel
theorem dX10_mays_28 : decode cX10_mays 28 = .ok (.iload_n 1, 1) := by decide +kernel
theorem dX10_mays_29 : decode cX10_mays 29 = .ok (.iload_n 3, 1) := by decide +kernel
theorem dX10_mays_30 : decode cX10_mays 30 = .ok (.iload 4, 2) := by decide +kernel
theorem dX10_mays_32 : decode cX10_mays 32 = .ok (.invokevirtual 127, 3) := by decide +kernel
theorem dX10_mays_35 : decode cX10_mays 35 = .ok (.ifCond .eq 7, 3) := by decide +kernel
theorem dX10_mays_38 : decode cX10_mays 38 = .ok (.iconst 1, 1) := by decide +kernel
theorem dX10_mays_39 : decode cX10_mays 39 = .ok (.goto 4, 3) := by decide +kernel
theorem dX10_mays_42 : decode cX10_mays 42 = .ok (.iconst 0, 1) := by decide +kernel
theorem dX10_mays_43 : decode cX10_mays 43 = .ok (.iadd, 1) := by decide +kernel
theorem dX10_mays_44 : decode cX10_mays 44 = .ok (.istore_n 2, 1) := by decide +kernel
theorem dX10_mays_45 : decode cX10_mays 45 = .ok (.iinc 4 1, 3) := by decide +kernel
theorem dX10_mays_48 : decode cX10_mays 48 = .ok (.goto (-33), 3) := by decide +kernel
theorem dX10_mays_51 : decode cX10_mays 51 = .ok (.iinc 3 1, 3) := by decide +kernel
theorem dX10_mays_54 : decode cX10_mays 54 = .ok (.goto (-50), 3) := by decide +kernel
theorem dX10_mays_57 : decode cX10_mays 57 = .ok (.iload_n 2, 1) := by decide +kernel
theorem dX10_mays_58 : decode cX10_mays 58 = .ok (.ireturn, 1) := by decide +kernel
def fX10_mays_43 (F : Nat) (t_stones : Int32) (t_told_ : Nat → Int32) (t_touches_ : Nat → Int32) (t_has_ : Nat → Int32) (t_beside_ : Nat → Int32) (t_slot_ : Nat → Int32) (p1 : Int32) (k4 : Int32 → Int32 → Option (Int32)) (k15 : Int32 → Int32 → Int32 → Option (Int32)) (x12 : Int32) (x13 : Int32) (s14 : Int32) (s15 : Int32) : Option (Int32) :=
(jl_let (s15 + s14) fun v16 =>
(jl_let (x13 + Int32.ofInt (1)) fun v17 =>
(k15 v16 x12 v17)))
def bX10_mays_15 (F : Nat) (t_stones : Int32) (t_told_ : Nat → Int32) (t_touches_ : Nat → Int32) (t_has_ : Nat → Int32) (t_beside_ : Nat → Int32) (t_slot_ : Nat → Int32) (p1 : Int32) (k4 : Int32 → Int32 → Option (Int32)) (k15 : Int32 → Int32 → Int32 → Option (Int32)) (x4 : Int32) (x5 : Int32) (x6 : Int32) : Option (Int32) :=
(if (t_told_ ((2 : Int32)).toNatClampNeg) < x6 then
(jl_let (x5 + Int32.ofInt (1)) fun v8 =>
(k4 x4 v8))
else
((fX10_isMay F t_stones t_touches_ t_has_ t_beside_ t_slot_ p1 x5 x6).bind fun r9 =>
(if r9 = 0 then
(fX10_mays_43 F t_stones t_told_ t_touches_ t_has_ t_beside_ t_slot_ p1 k4 k15 x5 x6 ((0 : Int32)) x4)
else
(fX10_mays_43 F t_stones t_told_ t_touches_ t_has_ t_beside_ t_slot_ p1 k4 k15 x5 x6 ((1 : Int32)) x4))))
def lX10_mays_15 (F : Nat) (t_stones : Int32) (t_told_ : Nat → Int32) (t_touches_ : Nat → Int32) (t_has_ : Nat → Int32) (t_beside_ : Nat → Int32) (t_slot_ : Nat → Int32) (p1 : Int32) (k4 : Int32 → Int32 → Option (Int32)) (F2 : Nat) (x4 : Int32) (x5 : Int32) (x6 : Int32) : Option (Int32) := jl_loop3 (bX10_mays_15 F t_stones t_told_ t_touches_ t_has_ t_beside_ t_slot_ p1 k4) F2 x4 x5 x6
def bX10_mays_4 (F : Nat) (t_stones : Int32) (t_told_ : Nat → Int32) (t_touches_ : Nat → Int32) (t_has_ : Nat → Int32) (t_beside_ : Nat → Int32) (t_slot_ : Nat → Int32) (p1 : Int32)  (k4 : Int32 → Int32 → Option (Int32)) (x1 : Int32) (x2 : Int32) : Option (Int32) :=
(if t_stones ≤ x2 then
(some (x1))
else
(lX10_mays_15 F t_stones t_told_ t_touches_ t_has_ t_beside_ t_slot_ p1 k4 F x1 x2 ((1 : Int32))))
def lX10_mays_4 (F : Nat) (t_stones : Int32) (t_told_ : Nat → Int32) (t_touches_ : Nat → Int32) (t_has_ : Nat → Int32) (t_beside_ : Nat → Int32) (t_slot_ : Nat → Int32) (p1 : Int32)  (F2 : Nat) (x1 : Int32) (x2 : Int32) : Option (Int32) := jl_loop2 (bX10_mays_4 F t_stones t_told_ t_touches_ t_has_ t_beside_ t_slot_ p1 ) F2 x1 x2
def fX10_mays (F : Nat) (t_stones : Int32) (t_told_ : Nat → Int32) (t_touches_ : Nat → Int32) (t_has_ : Nat → Int32) (t_beside_ : Nat → Int32) (t_slot_ : Nat → Int32) (p1 : Int32) : Option (Int32) :=
(lX10_mays_4 F t_stones t_told_ t_touches_ t_has_ t_beside_ t_slot_ p1 F ((0 : Int32)) ((0 : Int32)))
def oX10_mays (D : jv_D) (h_t : Nat) (h_t_text : Nat) (h_t_told : Nat) (h_t_touches : Nat) (h_t_has : Nat) (h_t_old : Nat) (h_t_beside : Nat) (h_t_slot : Nat) (h_t_row : Nat) (h_t_free : Nat) (h_t_worth : Nat) (h_t_fore : Nat) (h_t_back : Nat) (h_t_got : Nat) (t_length : Int32) (t_at : Int32) (t_stones : Int32) (t_kept : Int32) (t_done : Int32) (t_rows : Int32) (t_frees : Int32) (t_fewest : Int32) (t_told_ : Nat → Int32) (t_touches_ : Nat → Int32) (t_has_ : Nat → Int32) (t_beside_ : Nat → Int32) (t_slot_ : Nat → Int32) (r : Int32) : va_W := [(h_t, .inr (8, [.int t_length, .ref h_t_text, .int t_at, .ref h_t_told, .ref h_t_touches, .ref h_t_has, .ref h_t_old, .ref h_t_beside, .int t_stones, .ref h_t_slot, .int t_kept, .int t_done, .int t_rows, .ref h_t_row, .ref h_t_free, .int t_frees, .ref h_t_worth, .ref h_t_fore, .ref h_t_back, .int t_fewest, .ref h_t_got])), (h_t_told, jI D 8 t_told_), (h_t_touches, jZ D 32 t_touches_), (h_t_has, jI D 4 t_has_), (h_t_beside, jI D 9 t_beside_), (h_t_slot, jI D 240 t_slot_)]
set_option maxHeartbeats 40000000 in
set_option maxRecDepth 100000 in
theorem mX10_mays (l : Launch) (D : jv_D) (F : Nat) (h_t : Nat) (h_t_text : Nat) (h_t_told : Nat) (h_t_touches : Nat) (h_t_has : Nat) (h_t_old : Nat) (h_t_beside : Nat) (h_t_slot : Nat) (h_t_row : Nat) (h_t_free : Nat) (h_t_worth : Nat) (h_t_fore : Nat) (h_t_back : Nat) (h_t_got : Nat) (t_length : Int32) (t_at : Int32) (t_stones : Int32) (t_kept : Int32) (t_done : Int32) (t_rows : Int32) (t_frees : Int32) (t_fewest : Int32) (t_told_ : Nat → Int32) (t_touches_ : Nat → Int32) (t_has_ : Nat → Int32) (t_beside_ : Nat → Int32) (t_slot_ : Nat → Int32) (p1 : Int32) (r : Int32) (h : fX10_mays F t_stones t_told_ t_touches_ t_has_ t_beside_ t_slot_ p1 = some r) : MM l yX10_mays (jW yX10_mays cX10_mays 5 (some .int)) ({ frames := 2, cells := 0, slots := 0, locals := 49 }) D [.ref h_t, .int p1] [(h_t, .inr (8, [.int t_length, .ref h_t_text, .int t_at, .ref h_t_told, .ref h_t_touches, .ref h_t_has, .ref h_t_old, .ref h_t_beside, .int t_stones, .ref h_t_slot, .int t_kept, .int t_done, .int t_rows, .ref h_t_row, .ref h_t_free, .int t_frees, .ref h_t_worth, .ref h_t_fore, .ref h_t_back, .int t_fewest, .ref h_t_got])), (h_t_told, jI D 8 t_told_), (h_t_touches, jZ D 32 t_touches_), (h_t_has, jI D 4 t_has_), (h_t_beside, jI D 9 t_beside_), (h_t_slot, jI D 240 t_slot_)] (some (.int r)) (oX10_mays D h_t h_t_text h_t_told h_t_touches h_t_has h_t_old h_t_beside h_t_slot h_t_row h_t_free h_t_worth h_t_fore h_t_back h_t_got t_length t_at t_stones t_kept t_done t_rows t_frees t_fewest t_told_ t_touches_ t_has_ t_beside_ t_slot_ r) := by
  refine mn_of hpX10_mays (Nat.le_of_ble_eq_true rfl) ?_
  intro X hXl C E0 hN
  subst hXl
  replace C : JC D X 5 RX10 cX10_mays ({ frames := 2, cells := 0, slots := 0, locals := 49 }) := C
  have E : JE D X 0 0 (some .int) (fun _ : Unit => (some (.int r))) (fun _ : Unit => (oX10_mays D h_t h_t_text h_t_told h_t_touches h_t_has h_t_old h_t_beside h_t_slot h_t_row h_t_free h_t_worth h_t_fore h_t_back h_t_got t_length t_at t_stones t_kept t_done t_rows t_frees t_fewest t_told_ t_touches_ t_has_ t_beside_ t_slot_ r)) := E0 0 0 rfl rfl
  clear E0 hN
  show JJ D X 5 0 0 0 [(0, .ref h_t), (1, .int p1)] [] [(h_t, .inr (8, [.int t_length, .ref h_t_text, .int t_at, .ref h_t_told, .ref h_t_touches, .ref h_t_has, .ref h_t_old, .ref h_t_beside, .int t_stones, .ref h_t_slot, .int t_kept, .int t_done, .int t_rows, .ref h_t_row, .ref h_t_free, .int t_frees, .ref h_t_worth, .ref h_t_fore, .ref h_t_back, .int t_fewest, .ref h_t_got])), (h_t_told, jI D 8 t_told_), (h_t_touches, jZ D 32 t_touches_), (h_t_has, jI D 4 t_has_), (h_t_beside, jI D 9 t_beside_), (h_t_slot, jI D 240 t_slot_)]
  unfold fX10_mays at h
  have L4 : ∀ (x1 : Int32) (x2 : Int32), lX10_mays_4 F t_stones t_told_ t_touches_ t_has_ t_beside_ t_slot_ p1  F x1 x2 = some r → JJ D X 5 0 0 4 [(0, .ref h_t), (1, .int p1), (2, .int x1), (3, .int x2)] [] [(h_t, .inr (8, [.int t_length, .ref h_t_text, .int t_at, .ref h_t_told, .ref h_t_touches, .ref h_t_has, .ref h_t_old, .ref h_t_beside, .int t_stones, .ref h_t_slot, .int t_kept, .int t_done, .int t_rows, .ref h_t_row, .ref h_t_free, .int t_frees, .ref h_t_worth, .ref h_t_fore, .ref h_t_back, .int t_fewest, .ref h_t_got])), (h_t_told, jI D 8 t_told_), (h_t_touches, jZ D 32 t_touches_), (h_t_has, jI D 4 t_has_), (h_t_beside, jI D 9 t_beside_), (h_t_slot, jI D 240 t_slot_)] := by
    intro x1 x2 h
    refine jl_ind2 (fun x1 x2 => JJ D X 5 0 0 4 [(0, .ref h_t), (1, .int p1), (2, .int x1), (3, .int x2)] [] [(h_t, .inr (8, [.int t_length, .ref h_t_text, .int t_at, .ref h_t_told, .ref h_t_touches, .ref h_t_has, .ref h_t_old, .ref h_t_beside, .int t_stones, .ref h_t_slot, .int t_kept, .int t_done, .int t_rows, .ref h_t_row, .ref h_t_free, .int t_frees, .ref h_t_worth, .ref h_t_fore, .ref h_t_back, .int t_fewest, .ref h_t_got])), (h_t_told, jI D 8 t_told_), (h_t_touches, jZ D 32 t_touches_), (h_t_has, jI D 4 t_has_), (h_t_beside, jI D 9 t_beside_), (h_t_slot, jI D 240 t_slot_)]) ?_ F x1 x2 h
    clear h x1 x2
    intro k4 i4 x1 x2 h
    replace i4 : ∀ (x1 : Int32) (x2 : Int32), k4 x1 x2 = some r → JJ D X 5 0 0 4 [(0, .ref h_t), (1, .int p1), (2, .int x1), (3, .int x2)] [] [(h_t, .inr (8, [.int t_length, .ref h_t_text, .int t_at, .ref h_t_told, .ref h_t_touches, .ref h_t_has, .ref h_t_old, .ref h_t_beside, .int t_stones, .ref h_t_slot, .int t_kept, .int t_done, .int t_rows, .ref h_t_row, .ref h_t_free, .int t_frees, .ref h_t_worth, .ref h_t_fore, .ref h_t_back, .int t_fewest, .ref h_t_got])), (h_t_told, jI D 8 t_told_), (h_t_touches, jZ D 32 t_touches_), (h_t_has, jI D 4 t_has_), (h_t_beside, jI D 9 t_beside_), (h_t_slot, jI D 240 t_slot_)] := i4
    show JJ D X 5 0 0 4 [(0, .ref h_t), (1, .int p1), (2, .int x1), (3, .int x2)] [] [(h_t, .inr (8, [.int t_length, .ref h_t_text, .int t_at, .ref h_t_told, .ref h_t_touches, .ref h_t_has, .ref h_t_old, .ref h_t_beside, .int t_stones, .ref h_t_slot, .int t_kept, .int t_done, .int t_rows, .ref h_t_row, .ref h_t_free, .int t_frees, .ref h_t_worth, .ref h_t_fore, .ref h_t_back, .int t_fewest, .ref h_t_got])), (h_t_told, jI D 8 t_told_), (h_t_touches, jZ D 32 t_touches_), (h_t_has, jI D 4 t_has_), (h_t_beside, jI D 9 t_beside_), (h_t_slot, jI D 240 t_slot_)]
    unfold bX10_mays_4 at h
    have L15 : ∀ (x4 : Int32) (x5 : Int32) (x6 : Int32), lX10_mays_15 F t_stones t_told_ t_touches_ t_has_ t_beside_ t_slot_ p1 k4 F x4 x5 x6 = some r → JJ D X 5 0 0 15 [(0, .ref h_t), (1, .int p1), (2, .int x4), (3, .int x5), (4, .int x6)] [] [(h_t, .inr (8, [.int t_length, .ref h_t_text, .int t_at, .ref h_t_told, .ref h_t_touches, .ref h_t_has, .ref h_t_old, .ref h_t_beside, .int t_stones, .ref h_t_slot, .int t_kept, .int t_done, .int t_rows, .ref h_t_row, .ref h_t_free, .int t_frees, .ref h_t_worth, .ref h_t_fore, .ref h_t_back, .int t_fewest, .ref h_t_got])), (h_t_told, jI D 8 t_told_), (h_t_touches, jZ D 32 t_touches_), (h_t_has, jI D 4 t_has_), (h_t_beside, jI D 9 t_beside_), (h_t_slot, jI D 240 t_slot_)] := by
      intro x4 x5 x6 h
      refine jl_ind3 (fun x4 x5 x6 => JJ D X 5 0 0 15 [(0, .ref h_t), (1, .int p1), (2, .int x4), (3, .int x5), (4, .int x6)] [] [(h_t, .inr (8, [.int t_length, .ref h_t_text, .int t_at, .ref h_t_told, .ref h_t_touches, .ref h_t_has, .ref h_t_old, .ref h_t_beside, .int t_stones, .ref h_t_slot, .int t_kept, .int t_done, .int t_rows, .ref h_t_row, .ref h_t_free, .int t_frees, .ref h_t_worth, .ref h_t_fore, .ref h_t_back, .int t_fewest, .ref h_t_got])), (h_t_told, jI D 8 t_told_), (h_t_touches, jZ D 32 t_touches_), (h_t_has, jI D 4 t_has_), (h_t_beside, jI D 9 t_beside_), (h_t_slot, jI D 240 t_slot_)]) ?_ F x4 x5 x6 h
      clear h x4 x5 x6
      intro k15 i15 x4 x5 x6 h
      replace i15 : ∀ (x4 : Int32) (x5 : Int32) (x6 : Int32), k15 x4 x5 x6 = some r → JJ D X 5 0 0 15 [(0, .ref h_t), (1, .int p1), (2, .int x4), (3, .int x5), (4, .int x6)] [] [(h_t, .inr (8, [.int t_length, .ref h_t_text, .int t_at, .ref h_t_told, .ref h_t_touches, .ref h_t_has, .ref h_t_old, .ref h_t_beside, .int t_stones, .ref h_t_slot, .int t_kept, .int t_done, .int t_rows, .ref h_t_row, .ref h_t_free, .int t_frees, .ref h_t_worth, .ref h_t_fore, .ref h_t_back, .int t_fewest, .ref h_t_got])), (h_t_told, jI D 8 t_told_), (h_t_touches, jZ D 32 t_touches_), (h_t_has, jI D 4 t_has_), (h_t_beside, jI D 9 t_beside_), (h_t_slot, jI D 240 t_slot_)] := i15
      show JJ D X 5 0 0 15 [(0, .ref h_t), (1, .int p1), (2, .int x4), (3, .int x5), (4, .int x6)] [] [(h_t, .inr (8, [.int t_length, .ref h_t_text, .int t_at, .ref h_t_told, .ref h_t_touches, .ref h_t_has, .ref h_t_old, .ref h_t_beside, .int t_stones, .ref h_t_slot, .int t_kept, .int t_done, .int t_rows, .ref h_t_row, .ref h_t_free, .int t_frees, .ref h_t_worth, .ref h_t_fore, .ref h_t_back, .int t_fewest, .ref h_t_got])), (h_t_told, jI D 8 t_told_), (h_t_touches, jZ D 32 t_touches_), (h_t_has, jI D 4 t_has_), (h_t_beside, jI D 9 t_beside_), (h_t_slot, jI D 240 t_slot_)]
      unfold bX10_mays_15 at h
      have L43 : ∀ (x12 : Int32) (x13 : Int32) (s14 : Int32) (s15 : Int32), fX10_mays_43 F t_stones t_told_ t_touches_ t_has_ t_beside_ t_slot_ p1 k4 k15 x12 x13 s14 s15 = some r → JJ D X 5 0 0 43 [(0, .ref h_t), (1, .int p1), (3, .int x12), (4, .int x13)] [.int s14, .int s15] [(h_t, .inr (8, [.int t_length, .ref h_t_text, .int t_at, .ref h_t_told, .ref h_t_touches, .ref h_t_has, .ref h_t_old, .ref h_t_beside, .int t_stones, .ref h_t_slot, .int t_kept, .int t_done, .int t_rows, .ref h_t_row, .ref h_t_free, .int t_frees, .ref h_t_worth, .ref h_t_fore, .ref h_t_back, .int t_fewest, .ref h_t_got])), (h_t_told, jI D 8 t_told_), (h_t_touches, jZ D 32 t_touches_), (h_t_has, jI D 4 t_has_), (h_t_beside, jI D 9 t_beside_), (h_t_slot, jI D 240 t_slot_)] := by
        intro x12 x13 s14 s15 h
        unfold fX10_mays_43 at h
        refine j_iadd C dX10_mays_43 ?_
        refine j_istore_n C dX10_mays_44 rfl (lv' := fun v16 => [(2, .int v16), (0, .ref h_t), (1, .int p1), (3, .int x12), (4, .int x13)]) (by decide) (fun _ => rfl) h (fun v16 h => ?_)
        refine j_iinc C dX10_mays_45 4 rfl (lv' := fun v17 => [(4, .int v17), (2, .int v16), (0, .ref h_t), (1, .int p1), (3, .int x12)]) (by decide) (fun _ => rfl) h (fun v17 h => ?_)
        refine j_goto C dX10_mays_48 (tgt := 15) (by decide) ?_
        refine j_sub (lv' := [(0, .ref h_t), (1, .int p1), (2, .int v16), (3, .int x12), (4, .int v17)]) [2, 3, 1, 4, 0] rfl ?_
        exact i15 v16 x12 v17 h
      refine j_iload C dX10_mays_15 4 rfl ?_
      refine j_aload_n C dX10_mays_17 rfl 0 rfl ?_
      refine j_get C ibX10 (ci := 8) 0 rfl rfl 3 (by decide) bfX10_13 (v := .ref h_t_told) rfl dX10_mays_18 ?_
      refine j_iconst C dX10_mays_21 (v := (2 : Int32)) (by decide) ?_
      refine j_iald C 1 rfl (by unfold vp_in; decide) dX10_mays_22 ?_
      refine j_icmp_gt C (tgt := 51) dX10_mays_23 (by decide) h (fun c7 h => ?_) (fun c7 h => ?_)
      · refine j_iinc C dX10_mays_51 3 rfl (lv' := fun v8 => [(3, .int v8), (0, .ref h_t), (1, .int p1), (2, .int x4), (4, .int x6)]) (by decide) (fun _ => rfl) h (fun v8 h => ?_)
        refine j_goto C dX10_mays_54 (tgt := 4) (by decide) ?_
        refine j_sub (lv' := [(0, .ref h_t), (1, .int p1), (2, .int x4), (3, .int v8)]) [1, 2, 3, 0] rfl ?_
        exact i4 x4 v8 h
      · refine j_iload_n C dX10_mays_26 rfl 2 rfl ?_
        refine j_aload_n C dX10_mays_27 rfl 0 rfl ?_
        refine j_iload_n C dX10_mays_28 rfl 1 rfl ?_
        refine j_iload_n C dX10_mays_29 rfl 3 rfl ?_
        refine j_iload C dX10_mays_30 4 rfl ?_
        obtain ⟨r9, q10, h⟩ := jl_bind h
        refine j_cV1 C (mX10_isMay (jlaunch X) D F h_t h_t_text h_t_told h_t_touches h_t_has h_t_old h_t_beside h_t_slot h_t_row h_t_free h_t_worth h_t_fore h_t_back h_t_got t_length t_at t_stones t_kept t_done t_rows t_frees t_fewest t_touches_ t_has_ t_beside_ t_slot_ p1 x5 x6 r9 q10) bmX10_127 biX10_isMay bsX10_isMay bzX10 bcX10_isMay rfl hX10_isMay (rest := [.int x4]) rfl (jroom_of rfl) 0 (ci := 8) rfl rfl rfl [0, 2, 3, 4, 5] [1] [1, 0, 2, 3, 4, 5] (wr := [(h_t_told, jI D 8 t_told_)]) (ws2 := [(h_t, .inr (8, [.int t_length, .ref h_t_text, .int t_at, .ref h_t_told, .ref h_t_touches, .ref h_t_has, .ref h_t_old, .ref h_t_beside, .int t_stones, .ref h_t_slot, .int t_kept, .int t_done, .int t_rows, .ref h_t_row, .ref h_t_free, .int t_frees, .ref h_t_worth, .ref h_t_fore, .ref h_t_back, .int t_fewest, .ref h_t_got])), (h_t_told, jI D 8 t_told_), (h_t_touches, jZ D 32 t_touches_), (h_t_has, jI D 4 t_has_), (h_t_beside, jI D 9 t_beside_), (h_t_slot, jI D 240 t_slot_)]) rfl rfl rfl rfl rfl (Nat.le_of_ble_eq_true rfl) dX10_mays_32 ?_
        refine j_if_eq C (tgt := 42) dX10_mays_35 (by decide) h (fun c11 h => ?_) (fun c11 h => ?_)
        · refine j_iconst C dX10_mays_42 (v := (0 : Int32)) (by decide) ?_
          refine j_sub (lv' := [(0, .ref h_t), (1, .int p1), (3, .int x5), (4, .int x6)]) [0, 1, 3, 4] rfl ?_
          exact L43 x5 x6 ((0 : Int32)) x4 h
        · refine j_iconst C dX10_mays_38 (v := (1 : Int32)) (by decide) ?_
          refine j_goto C dX10_mays_39 (tgt := 43) (by decide) ?_
          refine j_sub (lv' := [(0, .ref h_t), (1, .int p1), (3, .int x5), (4, .int x6)]) [0, 1, 3, 4] rfl ?_
          exact L43 x5 x6 ((1 : Int32)) x4 h
    refine j_iload_n C dX10_mays_4 rfl 3 rfl ?_
    refine j_aload_n C dX10_mays_5 rfl 0 rfl ?_
    refine j_get C ibX10 (ci := 8) 0 rfl rfl 8 (by decide) bfX10_91 (v := .int t_stones) rfl dX10_mays_6 ?_
    refine j_icmp_ge C (tgt := 57) dX10_mays_9 (by decide) h (fun c3 h => ?_) (fun c3 h => ?_)
    · refine j_iload_n C dX10_mays_57 rfl 2 rfl ?_
      exact j_iretR C (r := r) (rtf := fun r => (some (.int r))) (wff := fun r => (oX10_mays D h_t h_t_text h_t_told h_t_touches h_t_has h_t_old h_t_beside h_t_slot h_t_row h_t_free h_t_worth h_t_fore h_t_back h_t_got t_length t_at t_stones t_kept t_done t_rows t_frees t_fewest t_told_ t_touches_ t_has_ t_beside_ t_slot_ r)) E h rfl rfl dX10_mays_58
    · refine j_iconst C dX10_mays_12 (v := (1 : Int32)) (by decide) ?_
      refine j_istoreC C dX10_mays_13 (lv' := [(4, .int ((1 : Int32))), (0, .ref h_t), (1, .int p1), (2, .int x1), (3, .int x2)]) (by decide) rfl ?_
      refine j_sub (lv' := [(0, .ref h_t), (1, .int p1), (2, .int x1), (3, .int x2), (4, .int ((1 : Int32)))]) [1, 2, 3, 4, 0] rfl ?_
      exact L15 x1 x2 ((1 : Int32)) h
  refine j_iconst C dX10_mays_0 (v := (0 : Int32)) (by decide) ?_
  refine j_istore_nC C dX10_mays_1 rfl (lv' := [(2, .int ((0 : Int32))), (0, .ref h_t), (1, .int p1)]) (by decide) rfl ?_
  refine j_iconst C dX10_mays_2 (v := (0 : Int32)) (by decide) ?_
  refine j_istore_nC C dX10_mays_3 rfl (lv' := [(3, .int ((0 : Int32))), (2, .int ((0 : Int32))), (0, .ref h_t), (1, .int p1)]) (by decide) rfl ?_
  refine j_sub (lv' := [(0, .ref h_t), (1, .int p1), (2, .int ((0 : Int32))), (3, .int ((0 : Int32)))]) [2, 3, 1, 0] rfl ?_
  exact L4 ((0 : Int32)) ((0 : Int32)) h
theorem dX10_copies_0 : decode cX10_copies 0 = .ok (.iconst 0, 1) := by decide +kernel
theorem dX10_copies_1 : decode cX10_copies 1 = .ok (.istore_n 3, 1) := by decide +kernel
theorem dX10_copies_2 : decode cX10_copies 2 = .ok (.iload_n 3, 1) := by decide +kernel
theorem dX10_copies_3 : decode cX10_copies 3 = .ok (.bipush 20, 2) := by decide +kernel
theorem dX10_copies_5 : decode cX10_copies 5 = .ok (.if_icmp .ge 31, 3) := by decide +kernel
theorem dX10_copies_8 : decode cX10_copies 8 = .ok (.aload_n 0, 1) := by decide +kernel
theorem dX10_copies_9 : decode cX10_copies 9 = .ok (.getfield 30, 3) := by decide +kernel
theorem dX10_copies_12 : decode cX10_copies 12 = .ok (.bipush 20, 2) := by decide +kernel
theorem dX10_copies_14 : decode cX10_copies 14 = .ok (.iload_n 2, 1) := by decide +kernel
theorem dX10_copies_15 : decode cX10_copies 15 = .ok (.imul, 1) := by decide +kernel
theorem dX10_copies_16 : decode cX10_copies 16 = .ok (.iload_n 3, 1) := by decide +kernel
theorem dX10_copies_17 : decode cX10_copies 17 = .ok (.iadd, 1) := by decide +kernel
theorem dX10_copies_18 : decode cX10_copies 18 = .ok (.aload_n 0, 1) := by decide +kernel
theorem dX10_copies_19 : decode cX10_copies 19 = .ok (.getfield 30, 3) := by decide +kernel
theorem dX10_copies_22 : decode cX10_copies 22 = .ok (.bipush 20, 2) := by decide +kernel
theorem dX10_copies_24 : decode cX10_copies 24 = .ok (.iload_n 1, 1) := by decide +kernel
theorem dX10_copies_25 : decode cX10_copies 25 = .ok (.imul, 1) := by decide +kernel
theorem dX10_copies_26 : decode cX10_copies 26 = .ok (.iload_n 3, 1) := by decide +kernel
theorem dX10_copies_27 : decode cX10_copies 27 = .ok (.iadd, 1) := by decide +kernel
theorem dX10_copies_28 : decode cX10_copies 28 = .ok (.iaload, 1) := by decide +kernel
theorem dX10_copies_29 : decode cX10_copies 29 = .ok (.iastore, 1) := by decide +kernel
theorem dX10_copies_30 : decode cX10_copies 30 = .ok (.iinc 3 1, 3) := by decide +kernel
theorem dX10_copies_33 : decode cX10_copies 33 = .ok (.goto (-31), 3) := by decide +kernel
theorem dX10_copies_36 : decode cX10_copies 36 = .ok (.return_, 1) := by decide +kernel
def bX10_copies_2 (F : Nat) (p1 : Int32) (p2 : Int32)  (k2 : Int32 → (Nat → Int32) → Option ((Nat → Int32))) (x1 : Int32) (m_t_slot__2 : Nat → Int32) : Option ((Nat → Int32)) :=
(if ((20 : Int32)) ≤ x1 then
(some (m_t_slot__2))
else
(if ((((20 : Int32)) * p1) + x1) < 0 ∨ 240 ≤ ((((20 : Int32)) * p1) + x1).toNatClampNeg then none else
(if ((((20 : Int32)) * p2) + x1) < 0 ∨ 240 ≤ ((((20 : Int32)) * p2) + x1).toNatClampNeg then none else
(jl_let (upd m_t_slot__2 ((((20 : Int32)) * p2) + x1).toNatClampNeg (m_t_slot__2 ((((20 : Int32)) * p1) + x1).toNatClampNeg)) fun g6 =>
(jl_let (x1 + Int32.ofInt (1)) fun v7 =>
(k2 v7 g6))))))
def lX10_copies_2 (F : Nat) (p1 : Int32) (p2 : Int32)  (F2 : Nat) (x1 : Int32) (m_t_slot__2 : Nat → Int32) : Option ((Nat → Int32)) := jl_loop2 (bX10_copies_2 F p1 p2 ) F2 x1 m_t_slot__2
def fX10_copies (F : Nat) (t_slot_ : Nat → Int32) (p1 : Int32) (p2 : Int32) : Option ((Nat → Int32)) :=
(lX10_copies_2 F p1 p2 F ((0 : Int32)) t_slot_)
def oX10_copies (D : jv_D) (h_t : Nat) (h_t_text : Nat) (h_t_told : Nat) (h_t_touches : Nat) (h_t_has : Nat) (h_t_old : Nat) (h_t_beside : Nat) (h_t_slot : Nat) (h_t_row : Nat) (h_t_free : Nat) (h_t_worth : Nat) (h_t_fore : Nat) (h_t_back : Nat) (h_t_got : Nat) (t_length : Int32) (t_at : Int32) (t_stones : Int32) (t_kept : Int32) (t_done : Int32) (t_rows : Int32) (t_frees : Int32) (t_fewest : Int32) (r : (Nat → Int32)) : va_W := [(h_t, .inr (8, [.int t_length, .ref h_t_text, .int t_at, .ref h_t_told, .ref h_t_touches, .ref h_t_has, .ref h_t_old, .ref h_t_beside, .int t_stones, .ref h_t_slot, .int t_kept, .int t_done, .int t_rows, .ref h_t_row, .ref h_t_free, .int t_frees, .ref h_t_worth, .ref h_t_fore, .ref h_t_back, .int t_fewest, .ref h_t_got])), (h_t_slot, jI D 240 r)]
set_option maxHeartbeats 40000000 in
set_option maxRecDepth 100000 in
theorem mX10_copies (l : Launch) (D : jv_D) (F : Nat) (h_t : Nat) (h_t_text : Nat) (h_t_told : Nat) (h_t_touches : Nat) (h_t_has : Nat) (h_t_old : Nat) (h_t_beside : Nat) (h_t_slot : Nat) (h_t_row : Nat) (h_t_free : Nat) (h_t_worth : Nat) (h_t_fore : Nat) (h_t_back : Nat) (h_t_got : Nat) (t_length : Int32) (t_at : Int32) (t_stones : Int32) (t_kept : Int32) (t_done : Int32) (t_rows : Int32) (t_frees : Int32) (t_fewest : Int32) (t_slot_ : Nat → Int32) (p1 : Int32) (p2 : Int32) (r : (Nat → Int32)) (h : fX10_copies F t_slot_ p1 p2 = some r) : MM l yX10_copies (jW yX10_copies cX10_copies 4 none) ({ frames := 0, cells := 0, slots := 0, locals := 0 }) D [.ref h_t, .int p1, .int p2] [(h_t, .inr (8, [.int t_length, .ref h_t_text, .int t_at, .ref h_t_told, .ref h_t_touches, .ref h_t_has, .ref h_t_old, .ref h_t_beside, .int t_stones, .ref h_t_slot, .int t_kept, .int t_done, .int t_rows, .ref h_t_row, .ref h_t_free, .int t_frees, .ref h_t_worth, .ref h_t_fore, .ref h_t_back, .int t_fewest, .ref h_t_got])), (h_t_slot, jI D 240 t_slot_)] none (oX10_copies D h_t h_t_text h_t_told h_t_touches h_t_has h_t_old h_t_beside h_t_slot h_t_row h_t_free h_t_worth h_t_fore h_t_back h_t_got t_length t_at t_stones t_kept t_done t_rows t_frees t_fewest r) := by
  refine mn_of hpX10_copies (Nat.le_of_ble_eq_true rfl) ?_
  intro X hXl C E0 hN
  subst hXl
  replace C : JC D X 4 RX10 cX10_copies ({ frames := 0, cells := 0, slots := 0, locals := 0 }) := C
  have E : JE D X 0 0 none (fun _ : Unit => none) (fun _ : Unit => (oX10_copies D h_t h_t_text h_t_told h_t_touches h_t_has h_t_old h_t_beside h_t_slot h_t_row h_t_free h_t_worth h_t_fore h_t_back h_t_got t_length t_at t_stones t_kept t_done t_rows t_frees t_fewest r)) := E0 0 0 rfl rfl
  clear E0 hN
  show JJ D X 4 0 0 0 [(0, .ref h_t), (1, .int p1), (2, .int p2)] [] [(h_t, .inr (8, [.int t_length, .ref h_t_text, .int t_at, .ref h_t_told, .ref h_t_touches, .ref h_t_has, .ref h_t_old, .ref h_t_beside, .int t_stones, .ref h_t_slot, .int t_kept, .int t_done, .int t_rows, .ref h_t_row, .ref h_t_free, .int t_frees, .ref h_t_worth, .ref h_t_fore, .ref h_t_back, .int t_fewest, .ref h_t_got])), (h_t_slot, jI D 240 t_slot_)]
  unfold fX10_copies at h
  have L2 : ∀ (x1 : Int32) (m_t_slot__2 : Nat → Int32), lX10_copies_2 F p1 p2  F x1 m_t_slot__2 = some r → JJ D X 4 0 0 2 [(0, .ref h_t), (1, .int p1), (2, .int p2), (3, .int x1)] [] [(h_t, .inr (8, [.int t_length, .ref h_t_text, .int t_at, .ref h_t_told, .ref h_t_touches, .ref h_t_has, .ref h_t_old, .ref h_t_beside, .int t_stones, .ref h_t_slot, .int t_kept, .int t_done, .int t_rows, .ref h_t_row, .ref h_t_free, .int t_frees, .ref h_t_worth, .ref h_t_fore, .ref h_t_back, .int t_fewest, .ref h_t_got])), (h_t_slot, jI D 240 m_t_slot__2)] := by
    intro x1 m_t_slot__2 h
    refine jl_ind2 (fun x1 m_t_slot__2 => JJ D X 4 0 0 2 [(0, .ref h_t), (1, .int p1), (2, .int p2), (3, .int x1)] [] [(h_t, .inr (8, [.int t_length, .ref h_t_text, .int t_at, .ref h_t_told, .ref h_t_touches, .ref h_t_has, .ref h_t_old, .ref h_t_beside, .int t_stones, .ref h_t_slot, .int t_kept, .int t_done, .int t_rows, .ref h_t_row, .ref h_t_free, .int t_frees, .ref h_t_worth, .ref h_t_fore, .ref h_t_back, .int t_fewest, .ref h_t_got])), (h_t_slot, jI D 240 m_t_slot__2)]) ?_ F x1 m_t_slot__2 h
    clear h x1 m_t_slot__2
    intro k2 i2 x1 m_t_slot__2 h
    replace i2 : ∀ (x1 : Int32) (m_t_slot__2 : Nat → Int32), k2 x1 m_t_slot__2 = some r → JJ D X 4 0 0 2 [(0, .ref h_t), (1, .int p1), (2, .int p2), (3, .int x1)] [] [(h_t, .inr (8, [.int t_length, .ref h_t_text, .int t_at, .ref h_t_told, .ref h_t_touches, .ref h_t_has, .ref h_t_old, .ref h_t_beside, .int t_stones, .ref h_t_slot, .int t_kept, .int t_done, .int t_rows, .ref h_t_row, .ref h_t_free, .int t_frees, .ref h_t_worth, .ref h_t_fore, .ref h_t_back, .int t_fewest, .ref h_t_got])), (h_t_slot, jI D 240 m_t_slot__2)] := i2
    show JJ D X 4 0 0 2 [(0, .ref h_t), (1, .int p1), (2, .int p2), (3, .int x1)] [] [(h_t, .inr (8, [.int t_length, .ref h_t_text, .int t_at, .ref h_t_told, .ref h_t_touches, .ref h_t_has, .ref h_t_old, .ref h_t_beside, .int t_stones, .ref h_t_slot, .int t_kept, .int t_done, .int t_rows, .ref h_t_row, .ref h_t_free, .int t_frees, .ref h_t_worth, .ref h_t_fore, .ref h_t_back, .int t_fewest, .ref h_t_got])), (h_t_slot, jI D 240 m_t_slot__2)]
    unfold bX10_copies_2 at h
    refine j_iload_n C dX10_copies_2 rfl 3 rfl ?_
    refine j_bipush C dX10_copies_3 (v := (20 : Int32)) (by decide) ?_
    refine j_icmp_ge C (tgt := 36) dX10_copies_5 (by decide) h (fun c3 h => ?_) (fun c3 h => ?_)
    · exact j_vretR C (r := r) (rtf := fun r => none) (wff := fun r => (oX10_copies D h_t h_t_text h_t_told h_t_touches h_t_has h_t_old h_t_beside h_t_slot h_t_row h_t_free h_t_worth h_t_fore h_t_back h_t_got t_length t_at t_stones t_kept t_done t_rows t_frees t_fewest r)) E h rfl rfl dX10_copies_36
    · refine j_aload_n C dX10_copies_8 rfl 0 rfl ?_
      refine j_get C ibX10 (ci := 8) 0 rfl rfl 9 (by decide) bfX10_30 (v := .ref h_t_slot) rfl dX10_copies_9 ?_
      refine j_bipush C dX10_copies_12 (v := (20 : Int32)) (by decide) ?_
      refine j_iload_n C dX10_copies_14 rfl 2 rfl ?_
      refine j_imul C dX10_copies_15 ?_
      refine j_iload_n C dX10_copies_16 rfl 3 rfl ?_
      refine j_iadd C dX10_copies_17 ?_
      refine j_aload_n C dX10_copies_18 rfl 0 rfl ?_
      refine j_get C ibX10 (ci := 8) 0 rfl rfl 9 (by decide) bfX10_30 (v := .ref h_t_slot) rfl dX10_copies_19 ?_
      refine j_bipush C dX10_copies_22 (v := (20 : Int32)) (by decide) ?_
      refine j_iload_n C dX10_copies_24 rfl 1 rfl ?_
      refine j_imul C dX10_copies_25 ?_
      refine j_iload_n C dX10_copies_26 rfl 3 rfl ?_
      refine j_iadd C dX10_copies_27 ?_
      refine jl_inb h (fun b4 h => ?_)
      refine j_iald C 1 rfl b4 dX10_copies_28 ?_
      refine jl_inb h (fun b5 h => ?_)
      refine j_iast C 1 rfl b5 dX10_copies_29 (ws' := fun g6 => [(h_t, .inr (8, [.int t_length, .ref h_t_text, .int t_at, .ref h_t_told, .ref h_t_touches, .ref h_t_has, .ref h_t_old, .ref h_t_beside, .int t_stones, .ref h_t_slot, .int t_kept, .int t_done, .int t_rows, .ref h_t_row, .ref h_t_free, .int t_frees, .ref h_t_worth, .ref h_t_fore, .ref h_t_back, .int t_fewest, .ref h_t_got])), (h_t_slot, jI D 240 g6)]) (fun _ => rfl) h (fun g6 h => ?_)
      refine j_iinc C dX10_copies_30 3 rfl (lv' := fun v7 => [(3, .int v7), (0, .ref h_t), (1, .int p1), (2, .int p2)]) (by decide) (fun _ => rfl) h (fun v7 h => ?_)
      refine j_goto C dX10_copies_33 (tgt := 2) (by decide) ?_
      refine j_sub (lv' := [(0, .ref h_t), (1, .int p1), (2, .int p2), (3, .int v7)]) [1, 2, 3, 0] rfl ?_
      exact i2 v7 g6 h
  refine j_iconst C dX10_copies_0 (v := (0 : Int32)) (by decide) ?_
  refine j_istore_nC C dX10_copies_1 rfl (lv' := [(3, .int ((0 : Int32))), (0, .ref h_t), (1, .int p1), (2, .int p2)]) (by decide) rfl ?_
  refine j_sub (lv' := [(0, .ref h_t), (1, .int p1), (2, .int p2), (3, .int ((0 : Int32)))]) [1, 2, 3, 0] rfl ?_
  exact L2 ((0 : Int32)) t_slot_ h
theorem dX10_known_0 : decode cX10_known 0 = .ok (.aload_n 0, 1) := by decide +kernel
theorem dX10_known_1 : decode cX10_known 1 = .ok (.getfield 97, 3) := by decide +kernel
theorem dX10_known_4 : decode cX10_known 4 = .ok (.bipush 8, 2) := by decide +kernel
theorem dX10_known_6 : decode cX10_known 6 = .ok (.if_icmp .ne 35, 3) := by decide +kernel
theorem dX10_known_9 : decode cX10_known 9 = .ok (.iconst 3, 1) := by decide +kernel
theorem dX10_known_10 : decode cX10_known 10 = .ok (.istore_n 1, 1) := by decide +kernel
theorem dX10_known_11 : decode cX10_known 11 = .ok (.iload_n 1, 1) := by decide +kernel
theorem dX10_known_12 : decode cX10_known 12 = .ok (.bipush 10, 2) := by decide +kernel
theorem dX10_known_14 : decode cX10_known 14 = .ok (.if_icmp .ge 17, 3) := by decide +kernel
theorem dX10_known_17 : decode cX10_known 17 = .ok (.aload_n 0, 1) := by decide +kernel
theorem dX10_known_18 : decode cX10_known 18 = .ok (.iload_n 1, 1) := by decide +kernel
theorem dX10_known_19 : decode cX10_known 19 = .ok (.iconst 1, 1) := by decide +kernel
theorem dX10_known_20 : decode cX10_known 20 = .ok (.iadd, 1) := by decide +kernel
theorem dX10_known_21 : decode cX10_known 21 = .ok (.iload_n 1, 1) := by decide +kernel
theorem dX10_known_22 : decode cX10_known 22 = .ok (.invokevirtual 130, 3) := by decide +kernel
theorem dX10_known_25 : decode cX10_known 25 = .ok (.iinc 1 1, 3) := by decide +kernel
theorem dX10_known_28 : decode cX10_known 28 = .ok (.goto (-17), 3) := by decide +kernel
theorem dX10_known_31 : decode cX10_known 31 = .ok (.aload_n 0, 1) := by decide +kernel
theorem dX10_known_32 : decode cX10_known 32 = .ok (.dup, 1) := by decide +kernel
theorem dX10_known_33 : decode cX10_known 33 = .ok (.getfield 97, 3) := by decide +kernel
theorem dX10_known_36 : decode cX10_known 36 = .ok (.iconst 1, 1) := by decide +kernel
theorem dX10_known_37 : decode cX10_known 37 = .ok (.isub, 1) := by decide +kernel
theorem dX10_known_38 : decode cX10_known 38 = .ok (.putfield 97, 3) := by decide +kernel
theorem dX10_known_41 : decode cX10_known 41 = .ok (.aload_n 0, 1) := by decide +kernel
theorem dX10_known_42 : decode cX10_known 42 = .ok (.iconst 0, 1) := by decide +kernel
theorem dX10_known_43 : decode cX10_known 43 = .ok (.iconst 3, 1) := by decide +kernel
theorem dX10_known_44 : decode cX10_known 44 = .ok (.aload_n 0, 1) := by decide +kernel
theorem dX10_known_45 : decode cX10_known 45 = .ok (.getfield 97, 3) := by decide +kernel
theorem dX10_known_48 : decode cX10_known 48 = .ok (.iadd, 1) := by decide +kernel
theorem dX10_known_49 : decode cX10_known 49 = .ok (.invokevirtual 130, 3) := by decide +kernel
theorem dX10_known_52 : decode cX10_known 52 = .ok (.aload_n 0, 1) := by decide +kernel
theorem dX10_known_53 : decode cX10_known 53 = .ok (.dup, 1) := by decide +kernel
theorem dX10_known_54 : decode cX10_known 54 = .ok (.getfield 97, 3) := by decide +kernel
theorem dX10_known_57 : decode cX10_known 57 = .ok (.iconst 1, 1) := by decide +kernel
theorem dX10_known_58 : decode cX10_known 58 = .ok (.iadd, 1) := by decide +kernel
theorem dX10_known_59 : decode cX10_known 59 = .ok (.putfield 97, 3) := by decide +kernel
theorem dX10_known_62 : decode cX10_known 62 = .ok (.return_, 1) := by decide +kernel
def fX10_known_41 (F : Nat)  (m_t_done_5 : Int32) (m_t_slot__6 : Nat → Int32) : Option (Int32 × (Nat → Int32)) :=
((fX10_copies F m_t_slot__6 ((0 : Int32)) (((3 : Int32)) + m_t_done_5)).bind fun r12 =>
(jl_let (m_t_done_5 + ((1 : Int32))) fun w14 =>
(some (w14, r12))))
def bX10_known_11 (F : Nat)  (k11 : Int32 → Int32 → (Nat → Int32) → Option (Int32 × (Nat → Int32))) (x2 : Int32) (m_t_done_3 : Int32) (m_t_slot__4 : Nat → Int32) : Option (Int32 × (Nat → Int32)) :=
(if ((10 : Int32)) ≤ x2 then
(jl_let (m_t_done_3 - ((1 : Int32))) fun w8 =>
(fX10_known_41 F w8 m_t_slot__4))
else
((fX10_copies F m_t_slot__4 (x2 + ((1 : Int32))) x2).bind fun r9 =>
(jl_let (x2 + Int32.ofInt (1)) fun v11 =>
(k11 v11 m_t_done_3 r9))))
def lX10_known_11 (F : Nat)  (F2 : Nat) (x2 : Int32) (m_t_done_3 : Int32) (m_t_slot__4 : Nat → Int32) : Option (Int32 × (Nat → Int32)) := jl_loop3 (bX10_known_11 F ) F2 x2 m_t_done_3 m_t_slot__4
def fX10_known (F : Nat) (t_done : Int32) (t_slot_ : Nat → Int32) : Option (Int32 × (Nat → Int32)) :=
(if t_done = ((8 : Int32)) then
(lX10_known_11 F F ((3 : Int32)) t_done t_slot_)
else
(fX10_known_41 F t_done t_slot_))
def oX10_known (D : jv_D) (h_t : Nat) (h_t_text : Nat) (h_t_told : Nat) (h_t_touches : Nat) (h_t_has : Nat) (h_t_old : Nat) (h_t_beside : Nat) (h_t_slot : Nat) (h_t_row : Nat) (h_t_free : Nat) (h_t_worth : Nat) (h_t_fore : Nat) (h_t_back : Nat) (h_t_got : Nat) (t_length : Int32) (t_at : Int32) (t_stones : Int32) (t_kept : Int32) (t_rows : Int32) (t_frees : Int32) (t_fewest : Int32) (r : Int32 × (Nat → Int32)) : va_W := [(h_t, .inr (8, [.int t_length, .ref h_t_text, .int t_at, .ref h_t_told, .ref h_t_touches, .ref h_t_has, .ref h_t_old, .ref h_t_beside, .int t_stones, .ref h_t_slot, .int t_kept, .int r.1, .int t_rows, .ref h_t_row, .ref h_t_free, .int t_frees, .ref h_t_worth, .ref h_t_fore, .ref h_t_back, .int t_fewest, .ref h_t_got])), (h_t_slot, jI D 240 r.2)]
set_option maxHeartbeats 40000000 in
set_option maxRecDepth 100000 in
theorem mX10_known (l : Launch) (D : jv_D) (F : Nat) (h_t : Nat) (h_t_text : Nat) (h_t_told : Nat) (h_t_touches : Nat) (h_t_has : Nat) (h_t_old : Nat) (h_t_beside : Nat) (h_t_slot : Nat) (h_t_row : Nat) (h_t_free : Nat) (h_t_worth : Nat) (h_t_fore : Nat) (h_t_back : Nat) (h_t_got : Nat) (t_length : Int32) (t_at : Int32) (t_stones : Int32) (t_kept : Int32) (t_done : Int32) (t_rows : Int32) (t_frees : Int32) (t_fewest : Int32) (t_slot_ : Nat → Int32) (r : Int32 × (Nat → Int32)) (h : fX10_known F t_done t_slot_ = some r) : MM l yX10_known (jW yX10_known cX10_known 2 none) ({ frames := 1, cells := 0, slots := 0, locals := 23 }) D [.ref h_t] [(h_t, .inr (8, [.int t_length, .ref h_t_text, .int t_at, .ref h_t_told, .ref h_t_touches, .ref h_t_has, .ref h_t_old, .ref h_t_beside, .int t_stones, .ref h_t_slot, .int t_kept, .int t_done, .int t_rows, .ref h_t_row, .ref h_t_free, .int t_frees, .ref h_t_worth, .ref h_t_fore, .ref h_t_back, .int t_fewest, .ref h_t_got])), (h_t_slot, jI D 240 t_slot_)] none (oX10_known D h_t h_t_text h_t_told h_t_touches h_t_has h_t_old h_t_beside h_t_slot h_t_row h_t_free h_t_worth h_t_fore h_t_back h_t_got t_length t_at t_stones t_kept t_rows t_frees t_fewest r) := by
  refine mn_of hpX10_known (Nat.le_of_ble_eq_true rfl) ?_
  intro X hXl C E0 hN
  subst hXl
  replace C : JC D X 2 RX10 cX10_known ({ frames := 1, cells := 0, slots := 0, locals := 23 }) := C
  have E : JE D X 0 0 none (fun _ : Unit => none) (fun _ : Unit => (oX10_known D h_t h_t_text h_t_told h_t_touches h_t_has h_t_old h_t_beside h_t_slot h_t_row h_t_free h_t_worth h_t_fore h_t_back h_t_got t_length t_at t_stones t_kept t_rows t_frees t_fewest r)) := E0 0 0 rfl rfl
  clear E0 hN
  show JJ D X 2 0 0 0 [(0, .ref h_t)] [] [(h_t, .inr (8, [.int t_length, .ref h_t_text, .int t_at, .ref h_t_told, .ref h_t_touches, .ref h_t_has, .ref h_t_old, .ref h_t_beside, .int t_stones, .ref h_t_slot, .int t_kept, .int t_done, .int t_rows, .ref h_t_row, .ref h_t_free, .int t_frees, .ref h_t_worth, .ref h_t_fore, .ref h_t_back, .int t_fewest, .ref h_t_got])), (h_t_slot, jI D 240 t_slot_)]
  unfold fX10_known at h
  have L41 : ∀ (m_t_done_5 : Int32) (m_t_slot__6 : Nat → Int32), fX10_known_41 F  m_t_done_5 m_t_slot__6 = some r → JJ D X 2 0 0 41 [(0, .ref h_t)] [] [(h_t, .inr (8, [.int t_length, .ref h_t_text, .int t_at, .ref h_t_told, .ref h_t_touches, .ref h_t_has, .ref h_t_old, .ref h_t_beside, .int t_stones, .ref h_t_slot, .int t_kept, .int m_t_done_5, .int t_rows, .ref h_t_row, .ref h_t_free, .int t_frees, .ref h_t_worth, .ref h_t_fore, .ref h_t_back, .int t_fewest, .ref h_t_got])), (h_t_slot, jI D 240 m_t_slot__6)] := by
    intro m_t_done_5 m_t_slot__6 h
    unfold fX10_known_41 at h
    refine j_aload_n C dX10_known_41 rfl 0 rfl ?_
    refine j_iconst C dX10_known_42 (v := (0 : Int32)) (by decide) ?_
    refine j_iconst C dX10_known_43 (v := (3 : Int32)) (by decide) ?_
    refine j_aload_n C dX10_known_44 rfl 0 rfl ?_
    refine j_get C ibX10 (ci := 8) 0 rfl rfl 11 (by decide) bfX10_97 (v := .int m_t_done_5) rfl dX10_known_45 ?_
    refine j_iadd C dX10_known_48 ?_
    obtain ⟨r12, q13, h⟩ := jl_bind h
    refine j_cV0 C (mX10_copies (jlaunch X) D F h_t h_t_text h_t_told h_t_touches h_t_has h_t_old h_t_beside h_t_slot h_t_row h_t_free h_t_worth h_t_fore h_t_back h_t_got t_length t_at t_stones t_kept m_t_done_5 t_rows t_frees t_fewest m_t_slot__6 ((0 : Int32)) (((3 : Int32)) + m_t_done_5) r12 q13) bmX10_130 biX10_copies bsX10_copies bzX10 bcX10_copies rfl hX10_copies (rest := []) rfl (jroom_of rfl) 0 (ci := 8) rfl rfl rfl [0, 1] [] [0, 1] (wr := []) (ws2 := [(h_t, .inr (8, [.int t_length, .ref h_t_text, .int t_at, .ref h_t_told, .ref h_t_touches, .ref h_t_has, .ref h_t_old, .ref h_t_beside, .int t_stones, .ref h_t_slot, .int t_kept, .int m_t_done_5, .int t_rows, .ref h_t_row, .ref h_t_free, .int t_frees, .ref h_t_worth, .ref h_t_fore, .ref h_t_back, .int t_fewest, .ref h_t_got])), (h_t_slot, jI D 240 r12)]) rfl rfl rfl rfl rfl (Nat.le_of_ble_eq_true rfl) dX10_known_49 ?_
    refine j_aload_n C dX10_known_52 rfl 0 rfl ?_
    refine j_dup C dX10_known_53 rfl ?_
    refine j_get C ibX10 (ci := 8) 0 rfl rfl 11 (by decide) bfX10_97 (v := .int m_t_done_5) rfl dX10_known_54 ?_
    refine j_iconst C dX10_known_57 (v := (1 : Int32)) (by decide) ?_
    refine j_iadd C dX10_known_58 ?_
    refine j_nmi h (fun w14 h => ?_)
    refine j_put C ibX10 tyX10 tyX10_ok nmX10 (ci := 8) 0 rfl rfl 11 (by decide) bfX10_97 rfl rfl rfl (Nat.le_of_ble_eq_true rfl) dX10_known_59 (ws' := [(h_t, .inr (8, [.int t_length, .ref h_t_text, .int t_at, .ref h_t_told, .ref h_t_touches, .ref h_t_has, .ref h_t_old, .ref h_t_beside, .int t_stones, .ref h_t_slot, .int t_kept, .int w14, .int t_rows, .ref h_t_row, .ref h_t_free, .int t_frees, .ref h_t_worth, .ref h_t_fore, .ref h_t_back, .int t_fewest, .ref h_t_got])), (h_t_slot, jI D 240 r12)]) rfl ?_
    exact j_vretR C (r := r) (rtf := fun r => none) (wff := fun r => (oX10_known D h_t h_t_text h_t_told h_t_touches h_t_has h_t_old h_t_beside h_t_slot h_t_row h_t_free h_t_worth h_t_fore h_t_back h_t_got t_length t_at t_stones t_kept t_rows t_frees t_fewest r)) E h rfl rfl dX10_known_62
  have L11 : ∀ (x2 : Int32) (m_t_done_3 : Int32) (m_t_slot__4 : Nat → Int32), lX10_known_11 F  F x2 m_t_done_3 m_t_slot__4 = some r → JJ D X 2 0 0 11 [(0, .ref h_t), (1, .int x2)] [] [(h_t, .inr (8, [.int t_length, .ref h_t_text, .int t_at, .ref h_t_told, .ref h_t_touches, .ref h_t_has, .ref h_t_old, .ref h_t_beside, .int t_stones, .ref h_t_slot, .int t_kept, .int m_t_done_3, .int t_rows, .ref h_t_row, .ref h_t_free, .int t_frees, .ref h_t_worth, .ref h_t_fore, .ref h_t_back, .int t_fewest, .ref h_t_got])), (h_t_slot, jI D 240 m_t_slot__4)] := by
    intro x2 m_t_done_3 m_t_slot__4 h
    refine jl_ind3 (fun x2 m_t_done_3 m_t_slot__4 => JJ D X 2 0 0 11 [(0, .ref h_t), (1, .int x2)] [] [(h_t, .inr (8, [.int t_length, .ref h_t_text, .int t_at, .ref h_t_told, .ref h_t_touches, .ref h_t_has, .ref h_t_old, .ref h_t_beside, .int t_stones, .ref h_t_slot, .int t_kept, .int m_t_done_3, .int t_rows, .ref h_t_row, .ref h_t_free, .int t_frees, .ref h_t_worth, .ref h_t_fore, .ref h_t_back, .int t_fewest, .ref h_t_got])), (h_t_slot, jI D 240 m_t_slot__4)]) ?_ F x2 m_t_done_3 m_t_slot__4 h
    clear h x2 m_t_done_3 m_t_slot__4
    intro k11 i11 x2 m_t_done_3 m_t_slot__4 h
    replace i11 : ∀ (x2 : Int32) (m_t_done_3 : Int32) (m_t_slot__4 : Nat → Int32), k11 x2 m_t_done_3 m_t_slot__4 = some r → JJ D X 2 0 0 11 [(0, .ref h_t), (1, .int x2)] [] [(h_t, .inr (8, [.int t_length, .ref h_t_text, .int t_at, .ref h_t_told, .ref h_t_touches, .ref h_t_has, .ref h_t_old, .ref h_t_beside, .int t_stones, .ref h_t_slot, .int t_kept, .int m_t_done_3, .int t_rows, .ref h_t_row, .ref h_t_free, .int t_frees, .ref h_t_worth, .ref h_t_fore, .ref h_t_back, .int t_fewest, .ref h_t_got])), (h_t_slot, jI D 240 m_t_slot__4)] := i11
    show JJ D X 2 0 0 11 [(0, .ref h_t), (1, .int x2)] [] [(h_t, .inr (8, [.int t_length, .ref h_t_text, .int t_at, .ref h_t_told, .ref h_t_touches, .ref h_t_has, .ref h_t_old, .ref h_t_beside, .int t_stones, .ref h_t_slot, .int t_kept, .int m_t_done_3, .int t_rows, .ref h_t_row, .ref h_t_free, .int t_frees, .ref h_t_worth, .ref h_t_fore, .ref h_t_back, .int t_fewest, .ref h_t_got])), (h_t_slot, jI D 240 m_t_slot__4)]
    unfold bX10_known_11 at h
    refine j_iload_n C dX10_known_11 rfl 1 rfl ?_
    refine j_bipush C dX10_known_12 (v := (10 : Int32)) (by decide) ?_
    refine j_icmp_ge C (tgt := 31) dX10_known_14 (by decide) h (fun c7 h => ?_) (fun c7 h => ?_)
    · refine j_aload_n C dX10_known_31 rfl 0 rfl ?_
      refine j_dup C dX10_known_32 rfl ?_
      refine j_get C ibX10 (ci := 8) 0 rfl rfl 11 (by decide) bfX10_97 (v := .int m_t_done_3) rfl dX10_known_33 ?_
      refine j_iconst C dX10_known_36 (v := (1 : Int32)) (by decide) ?_
      refine j_isub C dX10_known_37 ?_
      refine j_nmi h (fun w8 h => ?_)
      refine j_put C ibX10 tyX10 tyX10_ok nmX10 (ci := 8) 0 rfl rfl 11 (by decide) bfX10_97 rfl rfl rfl (Nat.le_of_ble_eq_true rfl) dX10_known_38 (ws' := [(h_t, .inr (8, [.int t_length, .ref h_t_text, .int t_at, .ref h_t_told, .ref h_t_touches, .ref h_t_has, .ref h_t_old, .ref h_t_beside, .int t_stones, .ref h_t_slot, .int t_kept, .int w8, .int t_rows, .ref h_t_row, .ref h_t_free, .int t_frees, .ref h_t_worth, .ref h_t_fore, .ref h_t_back, .int t_fewest, .ref h_t_got])), (h_t_slot, jI D 240 m_t_slot__4)]) rfl ?_
      refine j_sub (lv' := [(0, .ref h_t)]) [0] rfl ?_
      exact L41 w8 m_t_slot__4 h
    · refine j_aload_n C dX10_known_17 rfl 0 rfl ?_
      refine j_iload_n C dX10_known_18 rfl 1 rfl ?_
      refine j_iconst C dX10_known_19 (v := (1 : Int32)) (by decide) ?_
      refine j_iadd C dX10_known_20 ?_
      refine j_iload_n C dX10_known_21 rfl 1 rfl ?_
      obtain ⟨r9, q10, h⟩ := jl_bind h
      refine j_cV0 C (mX10_copies (jlaunch X) D F h_t h_t_text h_t_told h_t_touches h_t_has h_t_old h_t_beside h_t_slot h_t_row h_t_free h_t_worth h_t_fore h_t_back h_t_got t_length t_at t_stones t_kept m_t_done_3 t_rows t_frees t_fewest m_t_slot__4 (x2 + ((1 : Int32))) x2 r9 q10) bmX10_130 biX10_copies bsX10_copies bzX10 bcX10_copies rfl hX10_copies (rest := []) rfl (jroom_of rfl) 0 (ci := 8) rfl rfl rfl [0, 1] [] [0, 1] (wr := []) (ws2 := [(h_t, .inr (8, [.int t_length, .ref h_t_text, .int t_at, .ref h_t_told, .ref h_t_touches, .ref h_t_has, .ref h_t_old, .ref h_t_beside, .int t_stones, .ref h_t_slot, .int t_kept, .int m_t_done_3, .int t_rows, .ref h_t_row, .ref h_t_free, .int t_frees, .ref h_t_worth, .ref h_t_fore, .ref h_t_back, .int t_fewest, .ref h_t_got])), (h_t_slot, jI D 240 r9)]) rfl rfl rfl rfl rfl (Nat.le_of_ble_eq_true rfl) dX10_known_22 ?_
      refine j_iinc C dX10_known_25 1 rfl (lv' := fun v11 => [(1, .int v11), (0, .ref h_t)]) (by decide) (fun _ => rfl) h (fun v11 h => ?_)
      refine j_goto C dX10_known_28 (tgt := 11) (by decide) ?_
      refine j_sub (lv' := [(0, .ref h_t), (1, .int v11)]) [1, 0] rfl ?_
      exact i11 v11 m_t_done_3 r9 h
  refine j_aload_n C dX10_known_0 rfl 0 rfl ?_
  refine j_get C ibX10 (ci := 8) 0 rfl rfl 11 (by decide) bfX10_97 (v := .int t_done) rfl dX10_known_1 ?_
  refine j_bipush C dX10_known_4 (v := (8 : Int32)) (by decide) ?_
  refine j_icmp_ne C (tgt := 41) dX10_known_6 (by decide) h (fun c1 h => ?_) (fun c1 h => ?_)
  · refine j_iconst C dX10_known_9 (v := (3 : Int32)) (by decide) ?_
    refine j_istore_nC C dX10_known_10 rfl (lv' := [(1, .int ((3 : Int32))), (0, .ref h_t)]) (by decide) rfl ?_
    refine j_sub (lv' := [(0, .ref h_t), (1, .int ((3 : Int32)))]) [1, 0] rfl ?_
    exact L11 ((3 : Int32)) t_done t_slot_ h
  · refine j_sub (lv' := [(0, .ref h_t)]) [0] rfl ?_
    exact L41 t_done t_slot_ h
theorem dX10_paints_0 : decode cX10_paints 0 = .ok (.bipush 20, 2) := by decide +kernel
theorem dX10_paints_2 : decode cX10_paints 2 = .ok (.iload_n 1, 1) := by decide +kernel
theorem dX10_paints_3 : decode cX10_paints 3 = .ok (.imul, 1) := by decide +kernel
theorem dX10_paints_4 : decode cX10_paints 4 = .ok (.istore 4, 2) := by decide +kernel
theorem dX10_paints_6 : decode cX10_paints 6 = .ok (.aload_n 0, 1) := by decide +kernel
theorem dX10_paints_7 : decode cX10_paints 7 = .ok (.getfield 30, 3) := by decide +kernel
theorem dX10_paints_10 : decode cX10_paints 10 = .ok (.iload 4, 2) := by decide +kernel
theorem dX10_paints_12 : decode cX10_paints 12 = .ok (.iload_n 2, 1) := by decide +kernel
theorem dX10_paints_13 : decode cX10_paints 13 = .ok (.iadd, 1) := by decide +kernel
theorem dX10_paints_14 : decode cX10_paints 14 = .ok (.iload_n 3, 1) := by decide +kernel
theorem dX10_paints_15 : decode cX10_paints 15 = .ok (.iastore, 1) := by decide +kernel
theorem dX10_paints_16 : decode cX10_paints 16 = .ok (.aload_n 0, 1) := by decide +kernel
theorem dX10_paints_17 : decode cX10_paints 17 = .ok (.getfield 30, 3) := by decide +kernel
theorem dX10_paints_20 : decode cX10_paints 20 = .ok (.iload 4, 2) := by decide +kernel
theorem dX10_paints_22 : decode cX10_paints 22 = .ok (.bipush 9, 2) := by decide +kernel
theorem dX10_paints_24 : decode cX10_paints 24 = .ok (.iadd, 1) := by decide +kernel
theorem dX10_paints_25 : decode cX10_paints 25 = .ok (.aload_n 0, 1) := by decide +kernel
theorem dX10_paints_26 : decode cX10_paints 26 = .ok (.getfield 30, 3) := by decide +kernel
theorem dX10_paints_29 : decode cX10_paints 29 = .ok (.iload 4, 2) := by decide +kernel
theorem dX10_paints_31 : decode cX10_paints 31 = .ok (.bipush 18, 2) := by decide +kernel
theorem dX10_paints_33 : decode cX10_paints 33 = .ok (.iadd, 1) := by decide +kernel
theorem dX10_paints_34 : decode cX10_paints 34 = .ok (.iaload, 1) := by decide +kernel
theorem dX10_paints_35 : decode cX10_paints 35 = .ok (.iadd, 1) := by decide +kernel
theorem dX10_paints_36 : decode cX10_paints 36 = .ok (.iload_n 2, 1) := by decide +kernel
theorem dX10_paints_37 : decode cX10_paints 37 = .ok (.iastore, 1) := by decide +kernel
theorem dX10_paints_38 : decode cX10_paints 38 = .ok (.aload_n 0, 1) := by decide +kernel
theorem dX10_paints_39 : decode cX10_paints 39 = .ok (.getfield 30, 3) := by decide +kernel
theorem dX10_paints_42 : decode cX10_paints 42 = .ok (.iload 4, 2) := by decide +kernel
theorem dX10_paints_44 : decode cX10_paints 44 = .ok (.bipush 18, 2) := by decide +kernel
theorem dX10_paints_46 : decode cX10_paints 46 = .ok (.iadd, 1) := by decide +kernel
theorem dX10_paints_47 : decode cX10_paints 47 = .ok (.dup2, 1) := by decide +kernel
theorem dX10_paints_48 : decode cX10_paints 48 = .ok (.iaload, 1) := by decide +kernel
theorem dX10_paints_49 : decode cX10_paints 49 = .ok (.iconst 1, 1) := by decide +kernel
theorem dX10_paints_50 : decode cX10_paints 50 = .ok (.iadd, 1) := by decide +kernel
theorem dX10_paints_51 : decode cX10_paints 51 = .ok (.iastore, 1) := by decide +kernel
theorem dX10_paints_52 : decode cX10_paints 52 = .ok (.aload_n 0, 1) := by decide +kernel
theorem dX10_paints_53 : decode cX10_paints 53 = .ok (.getfield 30, 3) := by decide +kernel
theorem dX10_paints_56 : decode cX10_paints 56 = .ok (.iload 4, 2) := by decide +kernel
theorem dX10_paints_58 : decode cX10_paints 58 = .ok (.bipush 19, 2) := by decide +kernel
theorem dX10_paints_60 : decode cX10_paints 60 = .ok (.iadd, 1) := by decide +kernel
theorem dX10_paints_61 : decode cX10_paints 61 = .ok (.iconst 1, 1) := by decide +kernel
theorem dX10_paints_62 : decode cX10_paints 62 = .ok (.aload_n 0, 1) := by decide +kernel
theorem dX10_paints_63 : decode cX10_paints 63 = .ok (.getfield 30, 3) := by decide +kernel
theorem dX10_paints_66 : decode cX10_paints 66 = .ok (.iload 4, 2) := by decide +kernel
theorem dX10_paints_68 : decode cX10_paints 68 = .ok (.bipush 19, 2) := by decide +kernel
theorem dX10_paints_70 : decode cX10_paints 70 = .ok (.iadd, 1) := by decide +kernel
theorem dX10_paints_71 : decode cX10_paints 71 = .ok (.iaload, 1) := by decide +kernel
theorem dX10_paints_72 : decode cX10_paints 72 = .ok (.isub, 1) := by decide +kernel
theorem dX10_paints_73 : decode cX10_paints 73 = .ok (.iastore, 1) := by decide +kernel
theorem dX10_paints_74 : decode cX10_paints 74 = .ok (.return_, 1) := by decide +kernel
def fX10_paints (t_slot_ : Nat → Int32) (p1 : Int32) (p2 : Int32) (p3 : Int32) : Option ((Nat → Int32)) :=
(jl_let (((20 : Int32)) * p1) fun v1 =>
(if (v1 + p2) < 0 ∨ 240 ≤ (v1 + p2).toNatClampNeg then none else
(jl_let (upd t_slot_ (v1 + p2).toNatClampNeg p3) fun g3 =>
(if (v1 + ((18 : Int32))) < 0 ∨ 240 ≤ (v1 + ((18 : Int32))).toNatClampNeg then none else
(if ((v1 + ((9 : Int32))) + (g3 (v1 + ((18 : Int32))).toNatClampNeg)) < 0 ∨ 240 ≤ ((v1 + ((9 : Int32))) + (g3 (v1 + ((18 : Int32))).toNatClampNeg)).toNatClampNeg then none else
(jl_let (upd g3 ((v1 + ((9 : Int32))) + (g3 (v1 + ((18 : Int32))).toNatClampNeg)).toNatClampNeg p2) fun g6 =>
(if (v1 + ((18 : Int32))) < 0 ∨ 240 ≤ (v1 + ((18 : Int32))).toNatClampNeg then none else
(if (v1 + ((18 : Int32))) < 0 ∨ 240 ≤ (v1 + ((18 : Int32))).toNatClampNeg then none else
(jl_let (upd g6 (v1 + ((18 : Int32))).toNatClampNeg ((g6 (v1 + ((18 : Int32))).toNatClampNeg) + ((1 : Int32)))) fun g9 =>
(if (v1 + ((19 : Int32))) < 0 ∨ 240 ≤ (v1 + ((19 : Int32))).toNatClampNeg then none else
(if (v1 + ((19 : Int32))) < 0 ∨ 240 ≤ (v1 + ((19 : Int32))).toNatClampNeg then none else
(jl_let (upd g9 (v1 + ((19 : Int32))).toNatClampNeg (((1 : Int32)) - (g9 (v1 + ((19 : Int32))).toNatClampNeg))) fun g12 =>
(some (g12))))))))))))))
def oX10_paints (D : jv_D) (h_t : Nat) (h_t_text : Nat) (h_t_told : Nat) (h_t_touches : Nat) (h_t_has : Nat) (h_t_old : Nat) (h_t_beside : Nat) (h_t_slot : Nat) (h_t_row : Nat) (h_t_free : Nat) (h_t_worth : Nat) (h_t_fore : Nat) (h_t_back : Nat) (h_t_got : Nat) (t_length : Int32) (t_at : Int32) (t_stones : Int32) (t_kept : Int32) (t_done : Int32) (t_rows : Int32) (t_frees : Int32) (t_fewest : Int32) (r : (Nat → Int32)) : va_W := [(h_t, .inr (8, [.int t_length, .ref h_t_text, .int t_at, .ref h_t_told, .ref h_t_touches, .ref h_t_has, .ref h_t_old, .ref h_t_beside, .int t_stones, .ref h_t_slot, .int t_kept, .int t_done, .int t_rows, .ref h_t_row, .ref h_t_free, .int t_frees, .ref h_t_worth, .ref h_t_fore, .ref h_t_back, .int t_fewest, .ref h_t_got])), (h_t_slot, jI D 240 r)]
set_option maxHeartbeats 40000000 in
set_option maxRecDepth 100000 in
theorem mX10_paints (l : Launch) (D : jv_D) (h_t : Nat) (h_t_text : Nat) (h_t_told : Nat) (h_t_touches : Nat) (h_t_has : Nat) (h_t_old : Nat) (h_t_beside : Nat) (h_t_slot : Nat) (h_t_row : Nat) (h_t_free : Nat) (h_t_worth : Nat) (h_t_fore : Nat) (h_t_back : Nat) (h_t_got : Nat) (t_length : Int32) (t_at : Int32) (t_stones : Int32) (t_kept : Int32) (t_done : Int32) (t_rows : Int32) (t_frees : Int32) (t_fewest : Int32) (t_slot_ : Nat → Int32) (p1 : Int32) (p2 : Int32) (p3 : Int32) (r : (Nat → Int32)) (h : fX10_paints t_slot_ p1 p2 p3 = some r) : MM l yX10_paints (jW yX10_paints cX10_paints 5 none) ({ frames := 0, cells := 0, slots := 0, locals := 0 }) D [.ref h_t, .int p1, .int p2, .int p3] [(h_t, .inr (8, [.int t_length, .ref h_t_text, .int t_at, .ref h_t_told, .ref h_t_touches, .ref h_t_has, .ref h_t_old, .ref h_t_beside, .int t_stones, .ref h_t_slot, .int t_kept, .int t_done, .int t_rows, .ref h_t_row, .ref h_t_free, .int t_frees, .ref h_t_worth, .ref h_t_fore, .ref h_t_back, .int t_fewest, .ref h_t_got])), (h_t_slot, jI D 240 t_slot_)] none (oX10_paints D h_t h_t_text h_t_told h_t_touches h_t_has h_t_old h_t_beside h_t_slot h_t_row h_t_free h_t_worth h_t_fore h_t_back h_t_got t_length t_at t_stones t_kept t_done t_rows t_frees t_fewest r) := by
  refine mn_of hpX10_paints (Nat.le_of_ble_eq_true rfl) ?_
  intro X hXl C E0 hN
  subst hXl
  replace C : JC D X 5 RX10 cX10_paints ({ frames := 0, cells := 0, slots := 0, locals := 0 }) := C
  have E : JE D X 0 0 none (fun _ : Unit => none) (fun _ : Unit => (oX10_paints D h_t h_t_text h_t_told h_t_touches h_t_has h_t_old h_t_beside h_t_slot h_t_row h_t_free h_t_worth h_t_fore h_t_back h_t_got t_length t_at t_stones t_kept t_done t_rows t_frees t_fewest r)) := E0 0 0 rfl rfl
  clear E0 hN
  show JJ D X 5 0 0 0 [(0, .ref h_t), (1, .int p1), (2, .int p2), (3, .int p3)] [] [(h_t, .inr (8, [.int t_length, .ref h_t_text, .int t_at, .ref h_t_told, .ref h_t_touches, .ref h_t_has, .ref h_t_old, .ref h_t_beside, .int t_stones, .ref h_t_slot, .int t_kept, .int t_done, .int t_rows, .ref h_t_row, .ref h_t_free, .int t_frees, .ref h_t_worth, .ref h_t_fore, .ref h_t_back, .int t_fewest, .ref h_t_got])), (h_t_slot, jI D 240 t_slot_)]
  unfold fX10_paints at h
  refine j_bipush C dX10_paints_0 (v := (20 : Int32)) (by decide) ?_
  refine j_iload_n C dX10_paints_2 rfl 1 rfl ?_
  refine j_imul C dX10_paints_3 ?_
  refine j_istore C dX10_paints_4 (lv' := fun v1 => [(4, .int v1), (0, .ref h_t), (1, .int p1), (2, .int p2), (3, .int p3)]) (by decide) (fun _ => rfl) h (fun v1 h => ?_)
  refine j_aload_n C dX10_paints_6 rfl 1 rfl ?_
  refine j_get C ibX10 (ci := 8) 0 rfl rfl 9 (by decide) bfX10_30 (v := .ref h_t_slot) rfl dX10_paints_7 ?_
  refine j_iload C dX10_paints_10 0 rfl ?_
  refine j_iload_n C dX10_paints_12 rfl 3 rfl ?_
  refine j_iadd C dX10_paints_13 ?_
  refine j_iload_n C dX10_paints_14 rfl 4 rfl ?_
  refine jl_inb h (fun b2 h => ?_)
  refine j_iast C 1 rfl b2 dX10_paints_15 (ws' := fun g3 => [(h_t, .inr (8, [.int t_length, .ref h_t_text, .int t_at, .ref h_t_told, .ref h_t_touches, .ref h_t_has, .ref h_t_old, .ref h_t_beside, .int t_stones, .ref h_t_slot, .int t_kept, .int t_done, .int t_rows, .ref h_t_row, .ref h_t_free, .int t_frees, .ref h_t_worth, .ref h_t_fore, .ref h_t_back, .int t_fewest, .ref h_t_got])), (h_t_slot, jI D 240 g3)]) (fun _ => rfl) h (fun g3 h => ?_)
  refine j_aload_n C dX10_paints_16 rfl 1 rfl ?_
  refine j_get C ibX10 (ci := 8) 0 rfl rfl 9 (by decide) bfX10_30 (v := .ref h_t_slot) rfl dX10_paints_17 ?_
  refine j_iload C dX10_paints_20 0 rfl ?_
  refine j_bipush C dX10_paints_22 (v := (9 : Int32)) (by decide) ?_
  refine j_iadd C dX10_paints_24 ?_
  refine j_aload_n C dX10_paints_25 rfl 1 rfl ?_
  refine j_get C ibX10 (ci := 8) 0 rfl rfl 9 (by decide) bfX10_30 (v := .ref h_t_slot) rfl dX10_paints_26 ?_
  refine j_iload C dX10_paints_29 0 rfl ?_
  refine j_bipush C dX10_paints_31 (v := (18 : Int32)) (by decide) ?_
  refine j_iadd C dX10_paints_33 ?_
  refine jl_inb h (fun b4 h => ?_)
  refine j_iald C 1 rfl b4 dX10_paints_34 ?_
  refine j_iadd C dX10_paints_35 ?_
  refine j_iload_n C dX10_paints_36 rfl 3 rfl ?_
  refine jl_inb h (fun b5 h => ?_)
  refine j_iast C 1 rfl b5 dX10_paints_37 (ws' := fun g6 => [(h_t, .inr (8, [.int t_length, .ref h_t_text, .int t_at, .ref h_t_told, .ref h_t_touches, .ref h_t_has, .ref h_t_old, .ref h_t_beside, .int t_stones, .ref h_t_slot, .int t_kept, .int t_done, .int t_rows, .ref h_t_row, .ref h_t_free, .int t_frees, .ref h_t_worth, .ref h_t_fore, .ref h_t_back, .int t_fewest, .ref h_t_got])), (h_t_slot, jI D 240 g6)]) (fun _ => rfl) h (fun g6 h => ?_)
  refine j_aload_n C dX10_paints_38 rfl 1 rfl ?_
  refine j_get C ibX10 (ci := 8) 0 rfl rfl 9 (by decide) bfX10_30 (v := .ref h_t_slot) rfl dX10_paints_39 ?_
  refine j_iload C dX10_paints_42 0 rfl ?_
  refine j_bipush C dX10_paints_44 (v := (18 : Int32)) (by decide) ?_
  refine j_iadd C dX10_paints_46 ?_
  refine j_dup2_11 C dX10_paints_47 rfl rfl ?_
  refine jl_inb h (fun b7 h => ?_)
  refine j_iald C 1 rfl b7 dX10_paints_48 ?_
  refine j_iconst C dX10_paints_49 (v := (1 : Int32)) (by decide) ?_
  refine j_iadd C dX10_paints_50 ?_
  refine jl_inb h (fun b8 h => ?_)
  refine j_iast C 1 rfl b8 dX10_paints_51 (ws' := fun g9 => [(h_t, .inr (8, [.int t_length, .ref h_t_text, .int t_at, .ref h_t_told, .ref h_t_touches, .ref h_t_has, .ref h_t_old, .ref h_t_beside, .int t_stones, .ref h_t_slot, .int t_kept, .int t_done, .int t_rows, .ref h_t_row, .ref h_t_free, .int t_frees, .ref h_t_worth, .ref h_t_fore, .ref h_t_back, .int t_fewest, .ref h_t_got])), (h_t_slot, jI D 240 g9)]) (fun _ => rfl) h (fun g9 h => ?_)
  refine j_aload_n C dX10_paints_52 rfl 1 rfl ?_
  refine j_get C ibX10 (ci := 8) 0 rfl rfl 9 (by decide) bfX10_30 (v := .ref h_t_slot) rfl dX10_paints_53 ?_
  refine j_iload C dX10_paints_56 0 rfl ?_
  refine j_bipush C dX10_paints_58 (v := (19 : Int32)) (by decide) ?_
  refine j_iadd C dX10_paints_60 ?_
  refine j_iconst C dX10_paints_61 (v := (1 : Int32)) (by decide) ?_
  refine j_aload_n C dX10_paints_62 rfl 1 rfl ?_
  refine j_get C ibX10 (ci := 8) 0 rfl rfl 9 (by decide) bfX10_30 (v := .ref h_t_slot) rfl dX10_paints_63 ?_
  refine j_iload C dX10_paints_66 0 rfl ?_
  refine j_bipush C dX10_paints_68 (v := (19 : Int32)) (by decide) ?_
  refine j_iadd C dX10_paints_70 ?_
  refine jl_inb h (fun b10 h => ?_)
  refine j_iald C 1 rfl b10 dX10_paints_71 ?_
  refine j_isub C dX10_paints_72 ?_
  refine jl_inb h (fun b11 h => ?_)
  refine j_iast C 1 rfl b11 dX10_paints_73 (ws' := fun g12 => [(h_t, .inr (8, [.int t_length, .ref h_t_text, .int t_at, .ref h_t_told, .ref h_t_touches, .ref h_t_has, .ref h_t_old, .ref h_t_beside, .int t_stones, .ref h_t_slot, .int t_kept, .int t_done, .int t_rows, .ref h_t_row, .ref h_t_free, .int t_frees, .ref h_t_worth, .ref h_t_fore, .ref h_t_back, .int t_fewest, .ref h_t_got])), (h_t_slot, jI D 240 g12)]) (fun _ => rfl) h (fun g12 h => ?_)
  exact j_vretR C (r := r) (rtf := fun r => none) (wff := fun r => (oX10_paints D h_t h_t_text h_t_told h_t_touches h_t_has h_t_old h_t_beside h_t_slot h_t_row h_t_free h_t_worth h_t_fore h_t_back h_t_got t_length t_at t_stones t_kept t_done t_rows t_frees t_fewest r)) E h rfl rfl dX10_paints_74
theorem dX10_painted_0 : decode cX10_painted 0 = .ok (.iconst 0, 1) := by decide +kernel
theorem dX10_painted_1 : decode cX10_painted 1 = .ok (.istore_n 2, 1) := by decide +kernel
theorem dX10_painted_2 : decode cX10_painted 2 = .ok (.iconst 0, 1) := by decide +kernel
theorem dX10_painted_3 : decode cX10_painted 3 = .ok (.istore_n 3, 1) := by decide +kernel
theorem dX10_painted_4 : decode cX10_painted 4 = .ok (.iload_n 3, 1) := by decide +kernel
theorem dX10_painted_5 : decode cX10_painted 5 = .ok (.aload_n 0, 1) := by decide +kernel
theorem dX10_painted_6 : decode cX10_painted 6 = .ok (.getfield 91, 3) := by decide +kernel
theorem dX10_painted_9 : decode cX10_painted 9 = .ok (.if_icmp .ge 39, 3) := by decide +kernel
theorem dX10_painted_12 : decode cX10_painted 12 = .ok (.iload_n 2, 1) := by decide +kernel
theorem dX10_painted_13 : decode cX10_painted 13 = .ok (.aload_n 0, 1) := by decide +kernel
theorem dX10_painted_14 : decode cX10_painted 14 = .ok (.getfield 30, 3) := by decide +kernel
theorem dX10_painted_17 : decode cX10_painted 17 = .ok (.bipush 20, 2) := by decide +kernel
theorem dX10_painted_19 : decode cX10_painted 19 = .ok (.iload_n 1, 1) := by decide +kernel
theorem dX10_painted_20 : decode cX10_painted 20 = .ok (.imul, 1) := by decide +kernel
theorem dX10_painted_21 : decode cX10_painted 21 = .ok (.iload_n 3, 1) := by decide +kernel
theorem dX10_painted_22 : decode cX10_painted 22 = .ok (.iadd, 1) := by decide +kernel
theorem dX10_painted_23 : decode cX10_painted 23 = .ok (.iaload, 1) := by decide +kernel
theorem dX10_painted_24 : decode cX10_painted 24 = .ok (.i2l, 1) := by decide +kernel
theorem dX10_painted_25 : decode cX10_painted 25 = .ok (.lconst 1, 1) := by decide +kernel
theorem dX10_painted_26 : decode cX10_painted 26 = .ok (.ldc2_w 89, 3) := by decide +kernel
theorem dX10_painted_29 : decode cX10_painted 29 = .ok (.invokestatic 60, 3) := by decide +kernel
theorem dX10_painted_32 : decode cX10_painted 32 = .ok (.ifCond .eq 7, 3) := by decide +kernel
theorem dX10_painted_35 : decode cX10_painted 35 = .ok (.iconst 1, 1) := by decide +kernel
theorem dX10_painted_36 : decode cX10_painted 36 = .ok (.goto 4, 3) := by decide +kernel
theorem dX10_painted_39 : decode cX10_painted 39 = .ok (.iconst 0, 1) := by decide +kernel
theorem dX10_painted_40 : decode cX10_painted 40 = .ok (.iadd, 1) := by decide +kernel
theorem dX10_painted_41 : decode cX10_painted 41 = .ok (.istore_n 2, 1) := by decide +kernel
theorem dX10_painted_42 : decode cX10_painted 42 = .ok (.iinc 3 1, 3) := by decide +kernel
theorem dX10_painted_45 : decode cX10_painted 45 = .ok (.goto (-41), 3) := by decide +kernel
theorem dX10_painted_48 : decode cX10_painted 48 = .ok (.iload_n 2, 1) := by decide +kernel
theorem dX10_painted_49 : decode cX10_painted 49 = .ok (.ireturn, 1) := by decide +kernel
def fX10_painted_40 (F : Nat) (t_stones : Int32) (t_slot_ : Nat → Int32) (p1 : Int32) (k4 : Int32 → Int32 → Option (Int32)) (x8 : Int32) (s9 : Int32) (s10 : Int32) : Option (Int32) :=
(jl_let (s10 + s9) fun v11 =>
(jl_let (x8 + Int32.ofInt (1)) fun v12 =>
(k4 v11 v12)))
def bX10_painted_4 (F : Nat) (t_stones : Int32) (t_slot_ : Nat → Int32) (p1 : Int32)  (k4 : Int32 → Int32 → Option (Int32)) (x1 : Int32) (x2 : Int32) : Option (Int32) :=
(if t_stones ≤ x2 then
(some (x1))
else
(if ((((20 : Int32)) * p1) + x2) < 0 ∨ 240 ≤ ((((20 : Int32)) * p1) + x2).toNatClampNeg then none else
((fX10_in ((t_slot_ ((((20 : Int32)) * p1) + x2).toNatClampNeg).toInt64) ((1 : Int64)) ((3 : Int64))).bind fun r5 =>
(if r5 = 0 then
(fX10_painted_40 F t_stones t_slot_ p1 k4 x2 ((0 : Int32)) x1)
else
(fX10_painted_40 F t_stones t_slot_ p1 k4 x2 ((1 : Int32)) x1)))))
def lX10_painted_4 (F : Nat) (t_stones : Int32) (t_slot_ : Nat → Int32) (p1 : Int32)  (F2 : Nat) (x1 : Int32) (x2 : Int32) : Option (Int32) := jl_loop2 (bX10_painted_4 F t_stones t_slot_ p1 ) F2 x1 x2
def fX10_painted (F : Nat) (t_stones : Int32) (t_slot_ : Nat → Int32) (p1 : Int32) : Option (Int32) :=
(lX10_painted_4 F t_stones t_slot_ p1 F ((0 : Int32)) ((0 : Int32)))
def oX10_painted (D : jv_D) (h_t : Nat) (h_t_text : Nat) (h_t_told : Nat) (h_t_touches : Nat) (h_t_has : Nat) (h_t_old : Nat) (h_t_beside : Nat) (h_t_slot : Nat) (h_t_row : Nat) (h_t_free : Nat) (h_t_worth : Nat) (h_t_fore : Nat) (h_t_back : Nat) (h_t_got : Nat) (t_length : Int32) (t_at : Int32) (t_stones : Int32) (t_kept : Int32) (t_done : Int32) (t_rows : Int32) (t_frees : Int32) (t_fewest : Int32) (t_slot_ : Nat → Int32) (r : Int32) : va_W := [(h_t, .inr (8, [.int t_length, .ref h_t_text, .int t_at, .ref h_t_told, .ref h_t_touches, .ref h_t_has, .ref h_t_old, .ref h_t_beside, .int t_stones, .ref h_t_slot, .int t_kept, .int t_done, .int t_rows, .ref h_t_row, .ref h_t_free, .int t_frees, .ref h_t_worth, .ref h_t_fore, .ref h_t_back, .int t_fewest, .ref h_t_got])), (h_t_slot, jI D 240 t_slot_)]
set_option maxHeartbeats 40000000 in
set_option maxRecDepth 100000 in
theorem mX10_painted (l : Launch) (D : jv_D) (F : Nat) (h_t : Nat) (h_t_text : Nat) (h_t_told : Nat) (h_t_touches : Nat) (h_t_has : Nat) (h_t_old : Nat) (h_t_beside : Nat) (h_t_slot : Nat) (h_t_row : Nat) (h_t_free : Nat) (h_t_worth : Nat) (h_t_fore : Nat) (h_t_back : Nat) (h_t_got : Nat) (t_length : Int32) (t_at : Int32) (t_stones : Int32) (t_kept : Int32) (t_done : Int32) (t_rows : Int32) (t_frees : Int32) (t_fewest : Int32) (t_slot_ : Nat → Int32) (p1 : Int32) (r : Int32) (h : fX10_painted F t_stones t_slot_ p1 = some r) : MM l yX10_painted (jW yX10_painted cX10_painted 4 (some .int)) ({ frames := 1, cells := 0, slots := 0, locals := 25 }) D [.ref h_t, .int p1] [(h_t, .inr (8, [.int t_length, .ref h_t_text, .int t_at, .ref h_t_told, .ref h_t_touches, .ref h_t_has, .ref h_t_old, .ref h_t_beside, .int t_stones, .ref h_t_slot, .int t_kept, .int t_done, .int t_rows, .ref h_t_row, .ref h_t_free, .int t_frees, .ref h_t_worth, .ref h_t_fore, .ref h_t_back, .int t_fewest, .ref h_t_got])), (h_t_slot, jI D 240 t_slot_)] (some (.int r)) (oX10_painted D h_t h_t_text h_t_told h_t_touches h_t_has h_t_old h_t_beside h_t_slot h_t_row h_t_free h_t_worth h_t_fore h_t_back h_t_got t_length t_at t_stones t_kept t_done t_rows t_frees t_fewest t_slot_ r) := by
  refine mn_of hpX10_painted (Nat.le_of_ble_eq_true rfl) ?_
  intro X hXl C E0 hN
  subst hXl
  replace C : JC D X 4 RX10 cX10_painted ({ frames := 1, cells := 0, slots := 0, locals := 25 }) := C
  have E : JE D X 0 0 (some .int) (fun _ : Unit => (some (.int r))) (fun _ : Unit => (oX10_painted D h_t h_t_text h_t_told h_t_touches h_t_has h_t_old h_t_beside h_t_slot h_t_row h_t_free h_t_worth h_t_fore h_t_back h_t_got t_length t_at t_stones t_kept t_done t_rows t_frees t_fewest t_slot_ r)) := E0 0 0 rfl rfl
  clear E0 hN
  show JJ D X 4 0 0 0 [(0, .ref h_t), (1, .int p1)] [] [(h_t, .inr (8, [.int t_length, .ref h_t_text, .int t_at, .ref h_t_told, .ref h_t_touches, .ref h_t_has, .ref h_t_old, .ref h_t_beside, .int t_stones, .ref h_t_slot, .int t_kept, .int t_done, .int t_rows, .ref h_t_row, .ref h_t_free, .int t_frees, .ref h_t_worth, .ref h_t_fore, .ref h_t_back, .int t_fewest, .ref h_t_got])), (h_t_slot, jI D 240 t_slot_)]
  unfold fX10_painted at h
  have L4 : ∀ (x1 : Int32) (x2 : Int32), lX10_painted_4 F t_stones t_slot_ p1  F x1 x2 = some r → JJ D X 4 0 0 4 [(0, .ref h_t), (1, .int p1), (2, .int x1), (3, .int x2)] [] [(h_t, .inr (8, [.int t_length, .ref h_t_text, .int t_at, .ref h_t_told, .ref h_t_touches, .ref h_t_has, .ref h_t_old, .ref h_t_beside, .int t_stones, .ref h_t_slot, .int t_kept, .int t_done, .int t_rows, .ref h_t_row, .ref h_t_free, .int t_frees, .ref h_t_worth, .ref h_t_fore, .ref h_t_back, .int t_fewest, .ref h_t_got])), (h_t_slot, jI D 240 t_slot_)] := by
    intro x1 x2 h
    refine jl_ind2 (fun x1 x2 => JJ D X 4 0 0 4 [(0, .ref h_t), (1, .int p1), (2, .int x1), (3, .int x2)] [] [(h_t, .inr (8, [.int t_length, .ref h_t_text, .int t_at, .ref h_t_told, .ref h_t_touches, .ref h_t_has, .ref h_t_old, .ref h_t_beside, .int t_stones, .ref h_t_slot, .int t_kept, .int t_done, .int t_rows, .ref h_t_row, .ref h_t_free, .int t_frees, .ref h_t_worth, .ref h_t_fore, .ref h_t_back, .int t_fewest, .ref h_t_got])), (h_t_slot, jI D 240 t_slot_)]) ?_ F x1 x2 h
    clear h x1 x2
    intro k4 i4 x1 x2 h
    replace i4 : ∀ (x1 : Int32) (x2 : Int32), k4 x1 x2 = some r → JJ D X 4 0 0 4 [(0, .ref h_t), (1, .int p1), (2, .int x1), (3, .int x2)] [] [(h_t, .inr (8, [.int t_length, .ref h_t_text, .int t_at, .ref h_t_told, .ref h_t_touches, .ref h_t_has, .ref h_t_old, .ref h_t_beside, .int t_stones, .ref h_t_slot, .int t_kept, .int t_done, .int t_rows, .ref h_t_row, .ref h_t_free, .int t_frees, .ref h_t_worth, .ref h_t_fore, .ref h_t_back, .int t_fewest, .ref h_t_got])), (h_t_slot, jI D 240 t_slot_)] := i4
    show JJ D X 4 0 0 4 [(0, .ref h_t), (1, .int p1), (2, .int x1), (3, .int x2)] [] [(h_t, .inr (8, [.int t_length, .ref h_t_text, .int t_at, .ref h_t_told, .ref h_t_touches, .ref h_t_has, .ref h_t_old, .ref h_t_beside, .int t_stones, .ref h_t_slot, .int t_kept, .int t_done, .int t_rows, .ref h_t_row, .ref h_t_free, .int t_frees, .ref h_t_worth, .ref h_t_fore, .ref h_t_back, .int t_fewest, .ref h_t_got])), (h_t_slot, jI D 240 t_slot_)]
    unfold bX10_painted_4 at h
    have L40 : ∀ (x8 : Int32) (s9 : Int32) (s10 : Int32), fX10_painted_40 F t_stones t_slot_ p1 k4 x8 s9 s10 = some r → JJ D X 4 0 0 40 [(0, .ref h_t), (1, .int p1), (3, .int x8)] [.int s9, .int s10] [(h_t, .inr (8, [.int t_length, .ref h_t_text, .int t_at, .ref h_t_told, .ref h_t_touches, .ref h_t_has, .ref h_t_old, .ref h_t_beside, .int t_stones, .ref h_t_slot, .int t_kept, .int t_done, .int t_rows, .ref h_t_row, .ref h_t_free, .int t_frees, .ref h_t_worth, .ref h_t_fore, .ref h_t_back, .int t_fewest, .ref h_t_got])), (h_t_slot, jI D 240 t_slot_)] := by
      intro x8 s9 s10 h
      unfold fX10_painted_40 at h
      refine j_iadd C dX10_painted_40 ?_
      refine j_istore_n C dX10_painted_41 rfl (lv' := fun v11 => [(2, .int v11), (0, .ref h_t), (1, .int p1), (3, .int x8)]) (by decide) (fun _ => rfl) h (fun v11 h => ?_)
      refine j_iinc C dX10_painted_42 3 rfl (lv' := fun v12 => [(3, .int v12), (2, .int v11), (0, .ref h_t), (1, .int p1)]) (by decide) (fun _ => rfl) h (fun v12 h => ?_)
      refine j_goto C dX10_painted_45 (tgt := 4) (by decide) ?_
      refine j_sub (lv' := [(0, .ref h_t), (1, .int p1), (2, .int v11), (3, .int v12)]) [2, 3, 1, 0] rfl ?_
      exact i4 v11 v12 h
    refine j_iload_n C dX10_painted_4 rfl 3 rfl ?_
    refine j_aload_n C dX10_painted_5 rfl 0 rfl ?_
    refine j_get C ibX10 (ci := 8) 0 rfl rfl 8 (by decide) bfX10_91 (v := .int t_stones) rfl dX10_painted_6 ?_
    refine j_icmp_ge C (tgt := 48) dX10_painted_9 (by decide) h (fun c3 h => ?_) (fun c3 h => ?_)
    · refine j_iload_n C dX10_painted_48 rfl 2 rfl ?_
      exact j_iretR C (r := r) (rtf := fun r => (some (.int r))) (wff := fun r => (oX10_painted D h_t h_t_text h_t_told h_t_touches h_t_has h_t_old h_t_beside h_t_slot h_t_row h_t_free h_t_worth h_t_fore h_t_back h_t_got t_length t_at t_stones t_kept t_done t_rows t_frees t_fewest t_slot_ r)) E h rfl rfl dX10_painted_49
    · refine j_iload_n C dX10_painted_12 rfl 2 rfl ?_
      refine j_aload_n C dX10_painted_13 rfl 0 rfl ?_
      refine j_get C ibX10 (ci := 8) 0 rfl rfl 9 (by decide) bfX10_30 (v := .ref h_t_slot) rfl dX10_painted_14 ?_
      refine j_bipush C dX10_painted_17 (v := (20 : Int32)) (by decide) ?_
      refine j_iload_n C dX10_painted_19 rfl 1 rfl ?_
      refine j_imul C dX10_painted_20 ?_
      refine j_iload_n C dX10_painted_21 rfl 3 rfl ?_
      refine j_iadd C dX10_painted_22 ?_
      refine jl_inb h (fun b4 h => ?_)
      refine j_iald C 1 rfl b4 dX10_painted_23 ?_
      refine j_i2l C dX10_painted_24 ?_
      refine j_lconst C dX10_painted_25 (v := (1 : Int64)) (by decide) ?_
      refine j_ldc2_w C bKX10_89 dX10_painted_26 ?_
      obtain ⟨r5, q6, h⟩ := jl_bind h
      refine j_cS1 C (mX10_in (jlaunch X) D ((t_slot_ ((((20 : Int32)) * p1) + x2).toNatClampNeg).toInt64) ((1 : Int64)) ((3 : Int64)) r5 q6) bmX10_60 btX10_in bzX10 bcX10_in hX10_in (rest := [.int x1]) rfl (jroom_of rfl) [] [0, 1] [0, 1] (wr := [(h_t, .inr (8, [.int t_length, .ref h_t_text, .int t_at, .ref h_t_told, .ref h_t_touches, .ref h_t_has, .ref h_t_old, .ref h_t_beside, .int t_stones, .ref h_t_slot, .int t_kept, .int t_done, .int t_rows, .ref h_t_row, .ref h_t_free, .int t_frees, .ref h_t_worth, .ref h_t_fore, .ref h_t_back, .int t_fewest, .ref h_t_got])), (h_t_slot, jI D 240 t_slot_)]) (ws2 := [(h_t, .inr (8, [.int t_length, .ref h_t_text, .int t_at, .ref h_t_told, .ref h_t_touches, .ref h_t_has, .ref h_t_old, .ref h_t_beside, .int t_stones, .ref h_t_slot, .int t_kept, .int t_done, .int t_rows, .ref h_t_row, .ref h_t_free, .int t_frees, .ref h_t_worth, .ref h_t_fore, .ref h_t_back, .int t_fewest, .ref h_t_got])), (h_t_slot, jI D 240 t_slot_)]) rfl rfl rfl rfl rfl (Nat.le_of_ble_eq_true rfl) dX10_painted_29 ?_
      refine j_if_eq C (tgt := 39) dX10_painted_32 (by decide) h (fun c7 h => ?_) (fun c7 h => ?_)
      · refine j_iconst C dX10_painted_39 (v := (0 : Int32)) (by decide) ?_
        refine j_sub (lv' := [(0, .ref h_t), (1, .int p1), (3, .int x2)]) [0, 1, 3] rfl ?_
        exact L40 x2 ((0 : Int32)) x1 h
      · refine j_iconst C dX10_painted_35 (v := (1 : Int32)) (by decide) ?_
        refine j_goto C dX10_painted_36 (tgt := 40) (by decide) ?_
        refine j_sub (lv' := [(0, .ref h_t), (1, .int p1), (3, .int x2)]) [0, 1, 3] rfl ?_
        exact L40 x2 ((1 : Int32)) x1 h
  refine j_iconst C dX10_painted_0 (v := (0 : Int32)) (by decide) ?_
  refine j_istore_nC C dX10_painted_1 rfl (lv' := [(2, .int ((0 : Int32))), (0, .ref h_t), (1, .int p1)]) (by decide) rfl ?_
  refine j_iconst C dX10_painted_2 (v := (0 : Int32)) (by decide) ?_
  refine j_istore_nC C dX10_painted_3 rfl (lv' := [(3, .int ((0 : Int32))), (2, .int ((0 : Int32))), (0, .ref h_t), (1, .int p1)]) (by decide) rfl ?_
  refine j_sub (lv' := [(0, .ref h_t), (1, .int p1), (2, .int ((0 : Int32))), (3, .int ((0 : Int32)))]) [2, 3, 1, 0] rfl ?_
  exact L4 ((0 : Int32)) ((0 : Int32)) h
theorem dX10_paint_0 : decode cX10_paint 0 = .ok (.aload_n 0, 1) := by decide +kernel
theorem dX10_paint_1 : decode cX10_paint 1 = .ok (.iload_n 1, 1) := by decide +kernel
theorem dX10_paint_2 : decode cX10_paint 2 = .ok (.invokevirtual 117, 3) := by decide +kernel
theorem dX10_paint_5 : decode cX10_paint 5 = .ok (.ifCond .eq 11, 3) := by decide +kernel
theorem dX10_paint_8 : decode cX10_paint 8 = .ok (.aload_n 0, 1) := by decide +kernel
theorem dX10_paint_9 : decode cX10_paint 9 = .ok (.iload_n 2, 1) := by decide +kernel
theorem dX10_paint_10 : decode cX10_paint 10 = .ok (.invokevirtual 120, 3) := by decide +kernel
theorem dX10_paint_13 : decode cX10_paint 13 = .ok (.ifCond .ne 5, 3) := by decide +kernel
theorem dX10_paint_16 : decode cX10_paint 16 = .ok (.iconst (-1), 1) := by decide +kernel
theorem dX10_paint_17 : decode cX10_paint 17 = .ok (.ireturn, 1) := by decide +kernel
theorem dX10_paint_18 : decode cX10_paint 18 = .ok (.aload_n 0, 1) := by decide +kernel
theorem dX10_paint_19 : decode cX10_paint 19 = .ok (.iconst 0, 1) := by decide +kernel
theorem dX10_paint_20 : decode cX10_paint 20 = .ok (.iload_n 1, 1) := by decide +kernel
theorem dX10_paint_21 : decode cX10_paint 21 = .ok (.iload_n 2, 1) := by decide +kernel
theorem dX10_paint_22 : decode cX10_paint 22 = .ok (.invokevirtual 127, 3) := by decide +kernel
theorem dX10_paint_25 : decode cX10_paint 25 = .ok (.ifCond .ne 6, 3) := by decide +kernel
theorem dX10_paint_28 : decode cX10_paint 28 = .ok (.bipush (-2), 2) := by decide +kernel
theorem dX10_paint_30 : decode cX10_paint 30 = .ok (.ireturn, 1) := by decide +kernel
theorem dX10_paint_31 : decode cX10_paint 31 = .ok (.aload_n 0, 1) := by decide +kernel
theorem dX10_paint_32 : decode cX10_paint 32 = .ok (.invokevirtual 134, 3) := by decide +kernel
theorem dX10_paint_35 : decode cX10_paint 35 = .ok (.aload_n 0, 1) := by decide +kernel
theorem dX10_paint_36 : decode cX10_paint 36 = .ok (.iconst 0, 1) := by decide +kernel
theorem dX10_paint_37 : decode cX10_paint 37 = .ok (.iload_n 1, 1) := by decide +kernel
theorem dX10_paint_38 : decode cX10_paint 38 = .ok (.iload_n 2, 1) := by decide +kernel
theorem dX10_paint_39 : decode cX10_paint 39 = .ok (.invokevirtual 137, 3) := by decide +kernel
theorem dX10_paint_42 : decode cX10_paint 42 = .ok (.aload_n 0, 1) := by decide +kernel
theorem dX10_paint_43 : decode cX10_paint 43 = .ok (.iconst 0, 1) := by decide +kernel
theorem dX10_paint_44 : decode cX10_paint 44 = .ok (.invokevirtual 141, 3) := by decide +kernel
theorem dX10_paint_47 : decode cX10_paint 47 = .ok (.ireturn, 1) := by decide +kernel
def fX10_paint (F : Nat) (t_stones : Int32) (t_done : Int32) (t_told_ : Nat → Int32) (t_touches_ : Nat → Int32) (t_has_ : Nat → Int32) (t_beside_ : Nat → Int32) (t_slot_ : Nat → Int32) (p1 : Int32) (p2 : Int32) : Option (Int32 × Int32 × (Nat → Int32)) :=
((fX10_isStone t_stones p1).bind fun r1 =>
(if r1 = 0 then
(some ((-1 : Int32), t_done, t_slot_))
else
((fX10_isPaint t_told_ p2).bind fun r4 =>
(if r4 = 0 then
(some ((-1 : Int32), t_done, t_slot_))
else
((fX10_isMay F t_stones t_touches_ t_has_ t_beside_ t_slot_ ((0 : Int32)) p1 p2).bind fun r7 =>
(if r7 = 0 then
(some ((-2 : Int32), t_done, t_slot_))
else
((fX10_known F t_done t_slot_).bind fun r10 =>
((fX10_paints r10.2 ((0 : Int32)) p1 p2).bind fun r12 =>
((fX10_painted F t_stones r12 ((0 : Int32))).bind fun r14 =>
(some (r14, r10.1, r12)))))))))))
def oX10_paint (D : jv_D) (h_t : Nat) (h_t_text : Nat) (h_t_told : Nat) (h_t_touches : Nat) (h_t_has : Nat) (h_t_old : Nat) (h_t_beside : Nat) (h_t_slot : Nat) (h_t_row : Nat) (h_t_free : Nat) (h_t_worth : Nat) (h_t_fore : Nat) (h_t_back : Nat) (h_t_got : Nat) (t_length : Int32) (t_at : Int32) (t_stones : Int32) (t_kept : Int32) (t_rows : Int32) (t_frees : Int32) (t_fewest : Int32) (t_told_ : Nat → Int32) (t_touches_ : Nat → Int32) (t_has_ : Nat → Int32) (t_beside_ : Nat → Int32) (r : Int32 × Int32 × (Nat → Int32)) : va_W := [(h_t, .inr (8, [.int t_length, .ref h_t_text, .int t_at, .ref h_t_told, .ref h_t_touches, .ref h_t_has, .ref h_t_old, .ref h_t_beside, .int t_stones, .ref h_t_slot, .int t_kept, .int r.2.1, .int t_rows, .ref h_t_row, .ref h_t_free, .int t_frees, .ref h_t_worth, .ref h_t_fore, .ref h_t_back, .int t_fewest, .ref h_t_got])), (h_t_told, jI D 8 t_told_), (h_t_touches, jZ D 32 t_touches_), (h_t_has, jI D 4 t_has_), (h_t_beside, jI D 9 t_beside_), (h_t_slot, jI D 240 r.2.2)]
set_option maxHeartbeats 40000000 in
set_option maxRecDepth 100000 in
theorem mX10_paint (l : Launch) (D : jv_D) (F : Nat) (h_t : Nat) (h_t_text : Nat) (h_t_told : Nat) (h_t_touches : Nat) (h_t_has : Nat) (h_t_old : Nat) (h_t_beside : Nat) (h_t_slot : Nat) (h_t_row : Nat) (h_t_free : Nat) (h_t_worth : Nat) (h_t_fore : Nat) (h_t_back : Nat) (h_t_got : Nat) (t_length : Int32) (t_at : Int32) (t_stones : Int32) (t_kept : Int32) (t_done : Int32) (t_rows : Int32) (t_frees : Int32) (t_fewest : Int32) (t_told_ : Nat → Int32) (t_touches_ : Nat → Int32) (t_has_ : Nat → Int32) (t_beside_ : Nat → Int32) (t_slot_ : Nat → Int32) (p1 : Int32) (p2 : Int32) (r : Int32 × Int32 × (Nat → Int32)) (h : fX10_paint F t_stones t_done t_told_ t_touches_ t_has_ t_beside_ t_slot_ p1 p2 = some r) : MM l yX10_paint (jW yX10_paint cX10_paint 3 (some .int)) ({ frames := 2, cells := 0, slots := 0, locals := 49 }) D [.ref h_t, .int p1, .int p2] [(h_t, .inr (8, [.int t_length, .ref h_t_text, .int t_at, .ref h_t_told, .ref h_t_touches, .ref h_t_has, .ref h_t_old, .ref h_t_beside, .int t_stones, .ref h_t_slot, .int t_kept, .int t_done, .int t_rows, .ref h_t_row, .ref h_t_free, .int t_frees, .ref h_t_worth, .ref h_t_fore, .ref h_t_back, .int t_fewest, .ref h_t_got])), (h_t_told, jI D 8 t_told_), (h_t_touches, jZ D 32 t_touches_), (h_t_has, jI D 4 t_has_), (h_t_beside, jI D 9 t_beside_), (h_t_slot, jI D 240 t_slot_)] (some (.int r.1)) (oX10_paint D h_t h_t_text h_t_told h_t_touches h_t_has h_t_old h_t_beside h_t_slot h_t_row h_t_free h_t_worth h_t_fore h_t_back h_t_got t_length t_at t_stones t_kept t_rows t_frees t_fewest t_told_ t_touches_ t_has_ t_beside_ r) := by
  refine mn_of hpX10_paint (Nat.le_of_ble_eq_true rfl) ?_
  intro X hXl C E0 hN
  subst hXl
  replace C : JC D X 3 RX10 cX10_paint ({ frames := 2, cells := 0, slots := 0, locals := 49 }) := C
  have E : JE D X 0 0 (some .int) (fun _ : Unit => (some (.int r.1))) (fun _ : Unit => (oX10_paint D h_t h_t_text h_t_told h_t_touches h_t_has h_t_old h_t_beside h_t_slot h_t_row h_t_free h_t_worth h_t_fore h_t_back h_t_got t_length t_at t_stones t_kept t_rows t_frees t_fewest t_told_ t_touches_ t_has_ t_beside_ r)) := E0 0 0 rfl rfl
  clear E0 hN
  show JJ D X 3 0 0 0 [(0, .ref h_t), (1, .int p1), (2, .int p2)] [] [(h_t, .inr (8, [.int t_length, .ref h_t_text, .int t_at, .ref h_t_told, .ref h_t_touches, .ref h_t_has, .ref h_t_old, .ref h_t_beside, .int t_stones, .ref h_t_slot, .int t_kept, .int t_done, .int t_rows, .ref h_t_row, .ref h_t_free, .int t_frees, .ref h_t_worth, .ref h_t_fore, .ref h_t_back, .int t_fewest, .ref h_t_got])), (h_t_told, jI D 8 t_told_), (h_t_touches, jZ D 32 t_touches_), (h_t_has, jI D 4 t_has_), (h_t_beside, jI D 9 t_beside_), (h_t_slot, jI D 240 t_slot_)]
  unfold fX10_paint at h
  refine j_aload_n C dX10_paint_0 rfl 0 rfl ?_
  refine j_iload_n C dX10_paint_1 rfl 1 rfl ?_
  obtain ⟨r1, q2, h⟩ := jl_bind h
  refine j_cV1 C (mX10_isStone (jlaunch X) D h_t h_t_text h_t_told h_t_touches h_t_has h_t_old h_t_beside h_t_slot h_t_row h_t_free h_t_worth h_t_fore h_t_back h_t_got t_length t_at t_stones t_kept t_done t_rows t_frees t_fewest p1 r1 q2) bmX10_117 biX10_isStone bsX10_isStone bzX10 bcX10_isStone rfl hX10_isStone (rest := []) rfl (jroom_of rfl) 0 (ci := 8) rfl rfl rfl [0] [1, 2, 3, 4, 5] [5, 0, 1, 2, 3, 4] (wr := [(h_t_told, jI D 8 t_told_), (h_t_touches, jZ D 32 t_touches_), (h_t_has, jI D 4 t_has_), (h_t_beside, jI D 9 t_beside_), (h_t_slot, jI D 240 t_slot_)]) (ws2 := [(h_t, .inr (8, [.int t_length, .ref h_t_text, .int t_at, .ref h_t_told, .ref h_t_touches, .ref h_t_has, .ref h_t_old, .ref h_t_beside, .int t_stones, .ref h_t_slot, .int t_kept, .int t_done, .int t_rows, .ref h_t_row, .ref h_t_free, .int t_frees, .ref h_t_worth, .ref h_t_fore, .ref h_t_back, .int t_fewest, .ref h_t_got])), (h_t_told, jI D 8 t_told_), (h_t_touches, jZ D 32 t_touches_), (h_t_has, jI D 4 t_has_), (h_t_beside, jI D 9 t_beside_), (h_t_slot, jI D 240 t_slot_)]) rfl rfl rfl rfl rfl (Nat.le_of_ble_eq_true rfl) dX10_paint_2 ?_
  refine j_if_eq C (tgt := 16) dX10_paint_5 (by decide) h (fun c3 h => ?_) (fun c3 h => ?_)
  · refine j_iconst C dX10_paint_16 (v := (-1 : Int32)) (by decide) ?_
    exact j_iretR C (r := r) (rtf := fun r => (some (.int r.1))) (wff := fun r => (oX10_paint D h_t h_t_text h_t_told h_t_touches h_t_has h_t_old h_t_beside h_t_slot h_t_row h_t_free h_t_worth h_t_fore h_t_back h_t_got t_length t_at t_stones t_kept t_rows t_frees t_fewest t_told_ t_touches_ t_has_ t_beside_ r)) E h rfl rfl dX10_paint_17
  · refine j_aload_n C dX10_paint_8 rfl 0 rfl ?_
    refine j_iload_n C dX10_paint_9 rfl 2 rfl ?_
    obtain ⟨r4, q5, h⟩ := jl_bind h
    refine j_cV1 C (mX10_isPaint (jlaunch X) D h_t h_t_text h_t_told h_t_touches h_t_has h_t_old h_t_beside h_t_slot h_t_row h_t_free h_t_worth h_t_fore h_t_back h_t_got t_length t_at t_stones t_kept t_done t_rows t_frees t_fewest t_told_ p2 r4 q5) bmX10_120 biX10_isPaint bsX10_isPaint bzX10 bcX10_isPaint rfl hX10_isPaint (rest := []) rfl (jroom_of rfl) 0 (ci := 8) rfl rfl rfl [0, 1] [2, 3, 4, 5] [4, 5, 0, 1, 2, 3] (wr := [(h_t_touches, jZ D 32 t_touches_), (h_t_has, jI D 4 t_has_), (h_t_beside, jI D 9 t_beside_), (h_t_slot, jI D 240 t_slot_)]) (ws2 := [(h_t, .inr (8, [.int t_length, .ref h_t_text, .int t_at, .ref h_t_told, .ref h_t_touches, .ref h_t_has, .ref h_t_old, .ref h_t_beside, .int t_stones, .ref h_t_slot, .int t_kept, .int t_done, .int t_rows, .ref h_t_row, .ref h_t_free, .int t_frees, .ref h_t_worth, .ref h_t_fore, .ref h_t_back, .int t_fewest, .ref h_t_got])), (h_t_told, jI D 8 t_told_), (h_t_touches, jZ D 32 t_touches_), (h_t_has, jI D 4 t_has_), (h_t_beside, jI D 9 t_beside_), (h_t_slot, jI D 240 t_slot_)]) rfl rfl rfl rfl rfl (Nat.le_of_ble_eq_true rfl) dX10_paint_10 ?_
    refine j_if_ne C (tgt := 18) dX10_paint_13 (by decide) h (fun c6 h => ?_) (fun c6 h => ?_)
    · refine j_iconst C dX10_paint_16 (v := (-1 : Int32)) (by decide) ?_
      exact j_iretR C (r := r) (rtf := fun r => (some (.int r.1))) (wff := fun r => (oX10_paint D h_t h_t_text h_t_told h_t_touches h_t_has h_t_old h_t_beside h_t_slot h_t_row h_t_free h_t_worth h_t_fore h_t_back h_t_got t_length t_at t_stones t_kept t_rows t_frees t_fewest t_told_ t_touches_ t_has_ t_beside_ r)) E h rfl rfl dX10_paint_17
    · refine j_aload_n C dX10_paint_18 rfl 0 rfl ?_
      refine j_iconst C dX10_paint_19 (v := (0 : Int32)) (by decide) ?_
      refine j_iload_n C dX10_paint_20 rfl 1 rfl ?_
      refine j_iload_n C dX10_paint_21 rfl 2 rfl ?_
      obtain ⟨r7, q8, h⟩ := jl_bind h
      refine j_cV1 C (mX10_isMay (jlaunch X) D F h_t h_t_text h_t_told h_t_touches h_t_has h_t_old h_t_beside h_t_slot h_t_row h_t_free h_t_worth h_t_fore h_t_back h_t_got t_length t_at t_stones t_kept t_done t_rows t_frees t_fewest t_touches_ t_has_ t_beside_ t_slot_ ((0 : Int32)) p1 p2 r7 q8) bmX10_127 biX10_isMay bsX10_isMay bzX10 bcX10_isMay rfl hX10_isMay (rest := []) rfl (jroom_of rfl) 0 (ci := 8) rfl rfl rfl [0, 2, 3, 4, 5] [1] [1, 0, 2, 3, 4, 5] (wr := [(h_t_told, jI D 8 t_told_)]) (ws2 := [(h_t, .inr (8, [.int t_length, .ref h_t_text, .int t_at, .ref h_t_told, .ref h_t_touches, .ref h_t_has, .ref h_t_old, .ref h_t_beside, .int t_stones, .ref h_t_slot, .int t_kept, .int t_done, .int t_rows, .ref h_t_row, .ref h_t_free, .int t_frees, .ref h_t_worth, .ref h_t_fore, .ref h_t_back, .int t_fewest, .ref h_t_got])), (h_t_told, jI D 8 t_told_), (h_t_touches, jZ D 32 t_touches_), (h_t_has, jI D 4 t_has_), (h_t_beside, jI D 9 t_beside_), (h_t_slot, jI D 240 t_slot_)]) rfl rfl rfl rfl rfl (Nat.le_of_ble_eq_true rfl) dX10_paint_22 ?_
      refine j_if_ne C (tgt := 31) dX10_paint_25 (by decide) h (fun c9 h => ?_) (fun c9 h => ?_)
      · refine j_bipush C dX10_paint_28 (v := (-2 : Int32)) (by decide) ?_
        exact j_iretR C (r := r) (rtf := fun r => (some (.int r.1))) (wff := fun r => (oX10_paint D h_t h_t_text h_t_told h_t_touches h_t_has h_t_old h_t_beside h_t_slot h_t_row h_t_free h_t_worth h_t_fore h_t_back h_t_got t_length t_at t_stones t_kept t_rows t_frees t_fewest t_told_ t_touches_ t_has_ t_beside_ r)) E h rfl rfl dX10_paint_30
      · refine j_aload_n C dX10_paint_31 rfl 0 rfl ?_
        obtain ⟨r10, q11, h⟩ := jl_bind h
        refine j_cV0 C (mX10_known (jlaunch X) D F h_t h_t_text h_t_told h_t_touches h_t_has h_t_old h_t_beside h_t_slot h_t_row h_t_free h_t_worth h_t_fore h_t_back h_t_got t_length t_at t_stones t_kept t_done t_rows t_frees t_fewest t_slot_ r10 q11) bmX10_134 biX10_known bsX10_known bzX10 bcX10_known rfl hX10_known (rest := []) rfl (jroom_of rfl) 0 (ci := 8) rfl rfl rfl [0, 5] [1, 2, 3, 4] [4, 0, 1, 2, 3, 5] (wr := [(h_t_told, jI D 8 t_told_), (h_t_touches, jZ D 32 t_touches_), (h_t_has, jI D 4 t_has_), (h_t_beside, jI D 9 t_beside_)]) (ws2 := [(h_t, .inr (8, [.int t_length, .ref h_t_text, .int t_at, .ref h_t_told, .ref h_t_touches, .ref h_t_has, .ref h_t_old, .ref h_t_beside, .int t_stones, .ref h_t_slot, .int t_kept, .int r10.1, .int t_rows, .ref h_t_row, .ref h_t_free, .int t_frees, .ref h_t_worth, .ref h_t_fore, .ref h_t_back, .int t_fewest, .ref h_t_got])), (h_t_told, jI D 8 t_told_), (h_t_touches, jZ D 32 t_touches_), (h_t_has, jI D 4 t_has_), (h_t_beside, jI D 9 t_beside_), (h_t_slot, jI D 240 r10.2)]) rfl rfl rfl rfl rfl (Nat.le_of_ble_eq_true rfl) dX10_paint_32 ?_
        refine j_aload_n C dX10_paint_35 rfl 0 rfl ?_
        refine j_iconst C dX10_paint_36 (v := (0 : Int32)) (by decide) ?_
        refine j_iload_n C dX10_paint_37 rfl 1 rfl ?_
        refine j_iload_n C dX10_paint_38 rfl 2 rfl ?_
        obtain ⟨r12, q13, h⟩ := jl_bind h
        refine j_cV0 C (mX10_paints (jlaunch X) D h_t h_t_text h_t_told h_t_touches h_t_has h_t_old h_t_beside h_t_slot h_t_row h_t_free h_t_worth h_t_fore h_t_back h_t_got t_length t_at t_stones t_kept r10.1 t_rows t_frees t_fewest r10.2 ((0 : Int32)) p1 p2 r12 q13) bmX10_137 biX10_paints bsX10_paints bzX10 bcX10_paints rfl hX10_paints (rest := []) rfl (jroom_of rfl) 0 (ci := 8) rfl rfl rfl [0, 5] [1, 2, 3, 4] [4, 0, 1, 2, 3, 5] (wr := [(h_t_told, jI D 8 t_told_), (h_t_touches, jZ D 32 t_touches_), (h_t_has, jI D 4 t_has_), (h_t_beside, jI D 9 t_beside_)]) (ws2 := [(h_t, .inr (8, [.int t_length, .ref h_t_text, .int t_at, .ref h_t_told, .ref h_t_touches, .ref h_t_has, .ref h_t_old, .ref h_t_beside, .int t_stones, .ref h_t_slot, .int t_kept, .int r10.1, .int t_rows, .ref h_t_row, .ref h_t_free, .int t_frees, .ref h_t_worth, .ref h_t_fore, .ref h_t_back, .int t_fewest, .ref h_t_got])), (h_t_told, jI D 8 t_told_), (h_t_touches, jZ D 32 t_touches_), (h_t_has, jI D 4 t_has_), (h_t_beside, jI D 9 t_beside_), (h_t_slot, jI D 240 r12)]) rfl rfl rfl rfl rfl (Nat.le_of_ble_eq_true rfl) dX10_paint_39 ?_
        refine j_aload_n C dX10_paint_42 rfl 0 rfl ?_
        refine j_iconst C dX10_paint_43 (v := (0 : Int32)) (by decide) ?_
        obtain ⟨r14, q15, h⟩ := jl_bind h
        refine j_cV1 C (mX10_painted (jlaunch X) D F h_t h_t_text h_t_told h_t_touches h_t_has h_t_old h_t_beside h_t_slot h_t_row h_t_free h_t_worth h_t_fore h_t_back h_t_got t_length t_at t_stones t_kept r10.1 t_rows t_frees t_fewest r12 ((0 : Int32)) r14 q15) bmX10_141 biX10_painted bsX10_painted bzX10 bcX10_painted rfl hX10_painted (rest := []) rfl (jroom_of rfl) 0 (ci := 8) rfl rfl rfl [0, 5] [1, 2, 3, 4] [4, 0, 1, 2, 3, 5] (wr := [(h_t_told, jI D 8 t_told_), (h_t_touches, jZ D 32 t_touches_), (h_t_has, jI D 4 t_has_), (h_t_beside, jI D 9 t_beside_)]) (ws2 := [(h_t, .inr (8, [.int t_length, .ref h_t_text, .int t_at, .ref h_t_told, .ref h_t_touches, .ref h_t_has, .ref h_t_old, .ref h_t_beside, .int t_stones, .ref h_t_slot, .int t_kept, .int r10.1, .int t_rows, .ref h_t_row, .ref h_t_free, .int t_frees, .ref h_t_worth, .ref h_t_fore, .ref h_t_back, .int t_fewest, .ref h_t_got])), (h_t_told, jI D 8 t_told_), (h_t_touches, jZ D 32 t_touches_), (h_t_has, jI D 4 t_has_), (h_t_beside, jI D 9 t_beside_), (h_t_slot, jI D 240 r12)]) rfl rfl rfl rfl rfl (Nat.le_of_ble_eq_true rfl) dX10_paint_44 ?_
        exact j_iretR C (r := r) (rtf := fun r => (some (.int r.1))) (wff := fun r => (oX10_paint D h_t h_t_text h_t_told h_t_touches h_t_has h_t_old h_t_beside h_t_slot h_t_row h_t_free h_t_worth h_t_fore h_t_back h_t_got t_length t_at t_stones t_kept t_rows t_frees t_fewest t_told_ t_touches_ t_has_ t_beside_ r)) E h rfl rfl dX10_paint_47
theorem dX10_rain_0 : decode cX10_rain 0 = .ok (.iload_n 1, 1) := by decide +kernel
theorem dX10_rain_1 : decode cX10_rain 1 = .ok (.i2l, 1) := by decide +kernel
theorem dX10_rain_2 : decode cX10_rain 2 = .ok (.lconst 1, 1) := by decide +kernel
theorem dX10_rain_3 : decode cX10_rain 3 = .ok (.ldc2_w 89, 3) := by decide +kernel
theorem dX10_rain_6 : decode cX10_rain 6 = .ok (.invokestatic 60, 3) := by decide +kernel
theorem dX10_rain_9 : decode cX10_rain 9 = .ok (.ifCond .ne 5, 3) := by decide +kernel
theorem dX10_rain_12 : decode cX10_rain 12 = .ok (.iconst (-1), 1) := by decide +kernel
theorem dX10_rain_13 : decode cX10_rain 13 = .ok (.ireturn, 1) := by decide +kernel
theorem dX10_rain_14 : decode cX10_rain 14 = .ok (.aload_n 0, 1) := by decide +kernel
theorem dX10_rain_15 : decode cX10_rain 15 = .ok (.getfield 30, 3) := by decide +kernel
theorem dX10_rain_18 : decode cX10_rain 18 = .ok (.bipush 18, 2) := by decide +kernel
theorem dX10_rain_20 : decode cX10_rain 20 = .ok (.iaload, 1) := by decide +kernel
theorem dX10_rain_21 : decode cX10_rain 21 = .ok (.ifCond .ne 6, 3) := by decide +kernel
theorem dX10_rain_24 : decode cX10_rain 24 = .ok (.bipush (-2), 2) := by decide +kernel
theorem dX10_rain_26 : decode cX10_rain 26 = .ok (.ireturn, 1) := by decide +kernel
theorem dX10_rain_27 : decode cX10_rain 27 = .ok (.aload_n 0, 1) := by decide +kernel
theorem dX10_rain_28 : decode cX10_rain 28 = .ok (.invokevirtual 134, 3) := by decide +kernel
theorem dX10_rain_31 : decode cX10_rain 31 = .ok (.iconst 0, 1) := by decide +kernel
theorem dX10_rain_32 : decode cX10_rain 32 = .ok (.istore_n 2, 1) := by decide +kernel
theorem dX10_rain_33 : decode cX10_rain 33 = .ok (.iload_n 2, 1) := by decide +kernel
theorem dX10_rain_34 : decode cX10_rain 34 = .ok (.iload_n 1, 1) := by decide +kernel
theorem dX10_rain_35 : decode cX10_rain 35 = .ok (.if_icmp .ge 51, 3) := by decide +kernel
theorem dX10_rain_38 : decode cX10_rain 38 = .ok (.aload_n 0, 1) := by decide +kernel
theorem dX10_rain_39 : decode cX10_rain 39 = .ok (.getfield 30, 3) := by decide +kernel
theorem dX10_rain_42 : decode cX10_rain 42 = .ok (.bipush 18, 2) := by decide +kernel
theorem dX10_rain_44 : decode cX10_rain 44 = .ok (.iaload, 1) := by decide +kernel
theorem dX10_rain_45 : decode cX10_rain 45 = .ok (.ifCond .le 41, 3) := by decide +kernel
theorem dX10_rain_48 : decode cX10_rain 48 = .ok (.aload_n 0, 1) := by decide +kernel
theorem dX10_rain_49 : decode cX10_rain 49 = .ok (.getfield 30, 3) := by decide +kernel
theorem dX10_rain_52 : decode cX10_rain 52 = .ok (.bipush 18, 2) := by decide +kernel
theorem dX10_rain_54 : decode cX10_rain 54 = .ok (.dup2, 1) := by decide +kernel
theorem dX10_rain_55 : decode cX10_rain 55 = .ok (.iaload, 1) := by decide +kernel
theorem dX10_rain_56 : decode cX10_rain 56 = .ok (.iconst 1, 1) := by decide +kernel
theorem dX10_rain_57 : decode cX10_rain 57 = .ok (.isub, 1) := by decide +kernel
theorem dX10_rain_58 : decode cX10_rain 58 = .ok (.iastore, 1) := by decide +kernel
theorem dX10_rain_59 : decode cX10_rain 59 = .ok (.aload_n 0, 1) := by decide +kernel
theorem dX10_rain_60 : decode cX10_rain 60 = .ok (.getfield 30, 3) := by decide +kernel
theorem dX10_rain_63 : decode cX10_rain 63 = .ok (.aload_n 0, 1) := by decide +kernel
theorem dX10_rain_64 : decode cX10_rain 64 = .ok (.getfield 30, 3) := by decide +kernel
theorem dX10_rain_67 : decode cX10_rain 67 = .ok (.bipush 9, 2) := by decide +kernel
theorem dX10_rain_69 : decode cX10_rain 69 = .ok (.aload_n 0, 1) := by decide +kernel
theorem dX10_rain_70 : decode cX10_rain 70 = .ok (.getfield 30, 3) := by decide +kernel
theorem dX10_rain_73 : decode cX10_rain 73 = .ok (.bipush 18, 2) := by decide +kernel
theorem dX10_rain_75 : decode cX10_rain 75 = .ok (.iaload, 1) := by decide +kernel
theorem dX10_rain_76 : decode cX10_rain 76 = .ok (.iadd, 1) := by decide +kernel
theorem dX10_rain_77 : decode cX10_rain 77 = .ok (.iaload, 1) := by decide +kernel
theorem dX10_rain_78 : decode cX10_rain 78 = .ok (.iconst 0, 1) := by decide +kernel
theorem dX10_rain_79 : decode cX10_rain 79 = .ok (.iastore, 1) := by decide +kernel
theorem dX10_rain_80 : decode cX10_rain 80 = .ok (.iinc 2 1, 3) := by decide +kernel
theorem dX10_rain_83 : decode cX10_rain 83 = .ok (.goto (-50), 3) := by decide +kernel
theorem dX10_rain_86 : decode cX10_rain 86 = .ok (.iload_n 2, 1) := by decide +kernel
theorem dX10_rain_87 : decode cX10_rain 87 = .ok (.ireturn, 1) := by decide +kernel
def bX10_rain_33 (F : Nat) (p1 : Int32)  (k33 : Int32 → Int32 → (Nat → Int32) → Option (Int32 × Int32 × (Nat → Int32))) (x7 : Int32) (m_t_done_8 : Int32) (m_t_slot__9 : Nat → Int32) : Option (Int32 × Int32 × (Nat → Int32)) :=
(if p1 ≤ x7 then
(some (x7, m_t_done_8, m_t_slot__9))
else
(if (m_t_slot__9 ((18 : Int32)).toNatClampNeg) ≤ 0 then
(some (x7, m_t_done_8, m_t_slot__9))
else
(jl_let (upd m_t_slot__9 ((18 : Int32)).toNatClampNeg ((m_t_slot__9 ((18 : Int32)).toNatClampNeg) - ((1 : Int32)))) fun g12 =>
(if (((9 : Int32)) + (g12 ((18 : Int32)).toNatClampNeg)) < 0 ∨ 240 ≤ (((9 : Int32)) + (g12 ((18 : Int32)).toNatClampNeg)).toNatClampNeg then none else
(if (g12 (((9 : Int32)) + (g12 ((18 : Int32)).toNatClampNeg)).toNatClampNeg) < 0 ∨ 240 ≤ (g12 (((9 : Int32)) + (g12 ((18 : Int32)).toNatClampNeg)).toNatClampNeg).toNatClampNeg then none else
(jl_let (upd g12 (g12 (((9 : Int32)) + (g12 ((18 : Int32)).toNatClampNeg)).toNatClampNeg).toNatClampNeg ((0 : Int32))) fun g15 =>
(jl_let (x7 + Int32.ofInt (1)) fun v16 =>
(k33 v16 m_t_done_8 g15))))))))
def lX10_rain_33 (F : Nat) (p1 : Int32)  (F2 : Nat) (x7 : Int32) (m_t_done_8 : Int32) (m_t_slot__9 : Nat → Int32) : Option (Int32 × Int32 × (Nat → Int32)) := jl_loop3 (bX10_rain_33 F p1 ) F2 x7 m_t_done_8 m_t_slot__9
def fX10_rain (F : Nat) (t_done : Int32) (t_slot_ : Nat → Int32) (p1 : Int32) : Option (Int32 × Int32 × (Nat → Int32)) :=
((fX10_in p1.toInt64 ((1 : Int64)) ((3 : Int64))).bind fun r1 =>
(if r1 = 0 then
(some ((-1 : Int32), t_done, t_slot_))
else
(if (t_slot_ ((18 : Int32)).toNatClampNeg) = 0 then
(some ((-2 : Int32), t_done, t_slot_))
else
((fX10_known F t_done t_slot_).bind fun r5 =>
(lX10_rain_33 F p1 F ((0 : Int32)) r5.1 r5.2)))))
def oX10_rain (D : jv_D) (h_t : Nat) (h_t_text : Nat) (h_t_told : Nat) (h_t_touches : Nat) (h_t_has : Nat) (h_t_old : Nat) (h_t_beside : Nat) (h_t_slot : Nat) (h_t_row : Nat) (h_t_free : Nat) (h_t_worth : Nat) (h_t_fore : Nat) (h_t_back : Nat) (h_t_got : Nat) (t_length : Int32) (t_at : Int32) (t_stones : Int32) (t_kept : Int32) (t_rows : Int32) (t_frees : Int32) (t_fewest : Int32) (r : Int32 × Int32 × (Nat → Int32)) : va_W := [(h_t, .inr (8, [.int t_length, .ref h_t_text, .int t_at, .ref h_t_told, .ref h_t_touches, .ref h_t_has, .ref h_t_old, .ref h_t_beside, .int t_stones, .ref h_t_slot, .int t_kept, .int r.2.1, .int t_rows, .ref h_t_row, .ref h_t_free, .int t_frees, .ref h_t_worth, .ref h_t_fore, .ref h_t_back, .int t_fewest, .ref h_t_got])), (h_t_slot, jI D 240 r.2.2)]
set_option maxHeartbeats 40000000 in
set_option maxRecDepth 100000 in
theorem mX10_rain (l : Launch) (D : jv_D) (F : Nat) (h_t : Nat) (h_t_text : Nat) (h_t_told : Nat) (h_t_touches : Nat) (h_t_has : Nat) (h_t_old : Nat) (h_t_beside : Nat) (h_t_slot : Nat) (h_t_row : Nat) (h_t_free : Nat) (h_t_worth : Nat) (h_t_fore : Nat) (h_t_back : Nat) (h_t_got : Nat) (t_length : Int32) (t_at : Int32) (t_stones : Int32) (t_kept : Int32) (t_done : Int32) (t_rows : Int32) (t_frees : Int32) (t_fewest : Int32) (t_slot_ : Nat → Int32) (p1 : Int32) (r : Int32 × Int32 × (Nat → Int32)) (h : fX10_rain F t_done t_slot_ p1 = some r) : MM l yX10_rain (jW yX10_rain cX10_rain 3 (some .int)) ({ frames := 2, cells := 0, slots := 0, locals := 44 }) D [.ref h_t, .int p1] [(h_t, .inr (8, [.int t_length, .ref h_t_text, .int t_at, .ref h_t_told, .ref h_t_touches, .ref h_t_has, .ref h_t_old, .ref h_t_beside, .int t_stones, .ref h_t_slot, .int t_kept, .int t_done, .int t_rows, .ref h_t_row, .ref h_t_free, .int t_frees, .ref h_t_worth, .ref h_t_fore, .ref h_t_back, .int t_fewest, .ref h_t_got])), (h_t_slot, jI D 240 t_slot_)] (some (.int r.1)) (oX10_rain D h_t h_t_text h_t_told h_t_touches h_t_has h_t_old h_t_beside h_t_slot h_t_row h_t_free h_t_worth h_t_fore h_t_back h_t_got t_length t_at t_stones t_kept t_rows t_frees t_fewest r) := by
  refine mn_of hpX10_rain (Nat.le_of_ble_eq_true rfl) ?_
  intro X hXl C E0 hN
  subst hXl
  replace C : JC D X 3 RX10 cX10_rain ({ frames := 2, cells := 0, slots := 0, locals := 44 }) := C
  have E : JE D X 0 0 (some .int) (fun _ : Unit => (some (.int r.1))) (fun _ : Unit => (oX10_rain D h_t h_t_text h_t_told h_t_touches h_t_has h_t_old h_t_beside h_t_slot h_t_row h_t_free h_t_worth h_t_fore h_t_back h_t_got t_length t_at t_stones t_kept t_rows t_frees t_fewest r)) := E0 0 0 rfl rfl
  clear E0 hN
  show JJ D X 3 0 0 0 [(0, .ref h_t), (1, .int p1)] [] [(h_t, .inr (8, [.int t_length, .ref h_t_text, .int t_at, .ref h_t_told, .ref h_t_touches, .ref h_t_has, .ref h_t_old, .ref h_t_beside, .int t_stones, .ref h_t_slot, .int t_kept, .int t_done, .int t_rows, .ref h_t_row, .ref h_t_free, .int t_frees, .ref h_t_worth, .ref h_t_fore, .ref h_t_back, .int t_fewest, .ref h_t_got])), (h_t_slot, jI D 240 t_slot_)]
  unfold fX10_rain at h
  have L33 : ∀ (x7 : Int32) (m_t_done_8 : Int32) (m_t_slot__9 : Nat → Int32), lX10_rain_33 F p1  F x7 m_t_done_8 m_t_slot__9 = some r → JJ D X 3 0 0 33 [(0, .ref h_t), (1, .int p1), (2, .int x7)] [] [(h_t, .inr (8, [.int t_length, .ref h_t_text, .int t_at, .ref h_t_told, .ref h_t_touches, .ref h_t_has, .ref h_t_old, .ref h_t_beside, .int t_stones, .ref h_t_slot, .int t_kept, .int m_t_done_8, .int t_rows, .ref h_t_row, .ref h_t_free, .int t_frees, .ref h_t_worth, .ref h_t_fore, .ref h_t_back, .int t_fewest, .ref h_t_got])), (h_t_slot, jI D 240 m_t_slot__9)] := by
    intro x7 m_t_done_8 m_t_slot__9 h
    refine jl_ind3 (fun x7 m_t_done_8 m_t_slot__9 => JJ D X 3 0 0 33 [(0, .ref h_t), (1, .int p1), (2, .int x7)] [] [(h_t, .inr (8, [.int t_length, .ref h_t_text, .int t_at, .ref h_t_told, .ref h_t_touches, .ref h_t_has, .ref h_t_old, .ref h_t_beside, .int t_stones, .ref h_t_slot, .int t_kept, .int m_t_done_8, .int t_rows, .ref h_t_row, .ref h_t_free, .int t_frees, .ref h_t_worth, .ref h_t_fore, .ref h_t_back, .int t_fewest, .ref h_t_got])), (h_t_slot, jI D 240 m_t_slot__9)]) ?_ F x7 m_t_done_8 m_t_slot__9 h
    clear h x7 m_t_done_8 m_t_slot__9
    intro k33 i33 x7 m_t_done_8 m_t_slot__9 h
    replace i33 : ∀ (x7 : Int32) (m_t_done_8 : Int32) (m_t_slot__9 : Nat → Int32), k33 x7 m_t_done_8 m_t_slot__9 = some r → JJ D X 3 0 0 33 [(0, .ref h_t), (1, .int p1), (2, .int x7)] [] [(h_t, .inr (8, [.int t_length, .ref h_t_text, .int t_at, .ref h_t_told, .ref h_t_touches, .ref h_t_has, .ref h_t_old, .ref h_t_beside, .int t_stones, .ref h_t_slot, .int t_kept, .int m_t_done_8, .int t_rows, .ref h_t_row, .ref h_t_free, .int t_frees, .ref h_t_worth, .ref h_t_fore, .ref h_t_back, .int t_fewest, .ref h_t_got])), (h_t_slot, jI D 240 m_t_slot__9)] := i33
    show JJ D X 3 0 0 33 [(0, .ref h_t), (1, .int p1), (2, .int x7)] [] [(h_t, .inr (8, [.int t_length, .ref h_t_text, .int t_at, .ref h_t_told, .ref h_t_touches, .ref h_t_has, .ref h_t_old, .ref h_t_beside, .int t_stones, .ref h_t_slot, .int t_kept, .int m_t_done_8, .int t_rows, .ref h_t_row, .ref h_t_free, .int t_frees, .ref h_t_worth, .ref h_t_fore, .ref h_t_back, .int t_fewest, .ref h_t_got])), (h_t_slot, jI D 240 m_t_slot__9)]
    unfold bX10_rain_33 at h
    refine j_iload_n C dX10_rain_33 rfl 2 rfl ?_
    refine j_iload_n C dX10_rain_34 rfl 1 rfl ?_
    refine j_icmp_ge C (tgt := 86) dX10_rain_35 (by decide) h (fun c10 h => ?_) (fun c10 h => ?_)
    · refine j_iload_n C dX10_rain_86 rfl 2 rfl ?_
      exact j_iretR C (r := r) (rtf := fun r => (some (.int r.1))) (wff := fun r => (oX10_rain D h_t h_t_text h_t_told h_t_touches h_t_has h_t_old h_t_beside h_t_slot h_t_row h_t_free h_t_worth h_t_fore h_t_back h_t_got t_length t_at t_stones t_kept t_rows t_frees t_fewest r)) E h rfl rfl dX10_rain_87
    · refine j_aload_n C dX10_rain_38 rfl 0 rfl ?_
      refine j_get C ibX10 (ci := 8) 0 rfl rfl 9 (by decide) bfX10_30 (v := .ref h_t_slot) rfl dX10_rain_39 ?_
      refine j_bipush C dX10_rain_42 (v := (18 : Int32)) (by decide) ?_
      refine j_iald C 1 rfl (by unfold vp_in; decide) dX10_rain_44 ?_
      refine j_if_le C (tgt := 86) dX10_rain_45 (by decide) h (fun c11 h => ?_) (fun c11 h => ?_)
      · refine j_iload_n C dX10_rain_86 rfl 2 rfl ?_
        exact j_iretR C (r := r) (rtf := fun r => (some (.int r.1))) (wff := fun r => (oX10_rain D h_t h_t_text h_t_told h_t_touches h_t_has h_t_old h_t_beside h_t_slot h_t_row h_t_free h_t_worth h_t_fore h_t_back h_t_got t_length t_at t_stones t_kept t_rows t_frees t_fewest r)) E h rfl rfl dX10_rain_87
      · refine j_aload_n C dX10_rain_48 rfl 0 rfl ?_
        refine j_get C ibX10 (ci := 8) 0 rfl rfl 9 (by decide) bfX10_30 (v := .ref h_t_slot) rfl dX10_rain_49 ?_
        refine j_bipush C dX10_rain_52 (v := (18 : Int32)) (by decide) ?_
        refine j_dup2_11 C dX10_rain_54 rfl rfl ?_
        refine j_iald C 1 rfl (by unfold vp_in; decide) dX10_rain_55 ?_
        refine j_iconst C dX10_rain_56 (v := (1 : Int32)) (by decide) ?_
        refine j_isub C dX10_rain_57 ?_
        refine j_iast C 1 rfl (by unfold vp_in; decide) dX10_rain_58 (ws' := fun g12 => [(h_t, .inr (8, [.int t_length, .ref h_t_text, .int t_at, .ref h_t_told, .ref h_t_touches, .ref h_t_has, .ref h_t_old, .ref h_t_beside, .int t_stones, .ref h_t_slot, .int t_kept, .int m_t_done_8, .int t_rows, .ref h_t_row, .ref h_t_free, .int t_frees, .ref h_t_worth, .ref h_t_fore, .ref h_t_back, .int t_fewest, .ref h_t_got])), (h_t_slot, jI D 240 g12)]) (fun _ => rfl) h (fun g12 h => ?_)
        refine j_aload_n C dX10_rain_59 rfl 0 rfl ?_
        refine j_get C ibX10 (ci := 8) 0 rfl rfl 9 (by decide) bfX10_30 (v := .ref h_t_slot) rfl dX10_rain_60 ?_
        refine j_aload_n C dX10_rain_63 rfl 0 rfl ?_
        refine j_get C ibX10 (ci := 8) 0 rfl rfl 9 (by decide) bfX10_30 (v := .ref h_t_slot) rfl dX10_rain_64 ?_
        refine j_bipush C dX10_rain_67 (v := (9 : Int32)) (by decide) ?_
        refine j_aload_n C dX10_rain_69 rfl 0 rfl ?_
        refine j_get C ibX10 (ci := 8) 0 rfl rfl 9 (by decide) bfX10_30 (v := .ref h_t_slot) rfl dX10_rain_70 ?_
        refine j_bipush C dX10_rain_73 (v := (18 : Int32)) (by decide) ?_
        refine j_iald C 1 rfl (by unfold vp_in; decide) dX10_rain_75 ?_
        refine j_iadd C dX10_rain_76 ?_
        refine jl_inb h (fun b13 h => ?_)
        refine j_iald C 1 rfl b13 dX10_rain_77 ?_
        refine j_iconst C dX10_rain_78 (v := (0 : Int32)) (by decide) ?_
        refine jl_inb h (fun b14 h => ?_)
        refine j_iast C 1 rfl b14 dX10_rain_79 (ws' := fun g15 => [(h_t, .inr (8, [.int t_length, .ref h_t_text, .int t_at, .ref h_t_told, .ref h_t_touches, .ref h_t_has, .ref h_t_old, .ref h_t_beside, .int t_stones, .ref h_t_slot, .int t_kept, .int m_t_done_8, .int t_rows, .ref h_t_row, .ref h_t_free, .int t_frees, .ref h_t_worth, .ref h_t_fore, .ref h_t_back, .int t_fewest, .ref h_t_got])), (h_t_slot, jI D 240 g15)]) (fun _ => rfl) h (fun g15 h => ?_)
        refine j_iinc C dX10_rain_80 2 rfl (lv' := fun v16 => [(2, .int v16), (0, .ref h_t), (1, .int p1)]) (by decide) (fun _ => rfl) h (fun v16 h => ?_)
        refine j_goto C dX10_rain_83 (tgt := 33) (by decide) ?_
        refine j_sub (lv' := [(0, .ref h_t), (1, .int p1), (2, .int v16)]) [1, 2, 0] rfl ?_
        exact i33 v16 m_t_done_8 g15 h
  refine j_iload_n C dX10_rain_0 rfl 1 rfl ?_
  refine j_i2l C dX10_rain_1 ?_
  refine j_lconst C dX10_rain_2 (v := (1 : Int64)) (by decide) ?_
  refine j_ldc2_w C bKX10_89 dX10_rain_3 ?_
  obtain ⟨r1, q2, h⟩ := jl_bind h
  refine j_cS1 C (mX10_in (jlaunch X) D p1.toInt64 ((1 : Int64)) ((3 : Int64)) r1 q2) bmX10_60 btX10_in bzX10 bcX10_in hX10_in (rest := []) rfl (jroom_of rfl) [] [0, 1] [0, 1] (wr := [(h_t, .inr (8, [.int t_length, .ref h_t_text, .int t_at, .ref h_t_told, .ref h_t_touches, .ref h_t_has, .ref h_t_old, .ref h_t_beside, .int t_stones, .ref h_t_slot, .int t_kept, .int t_done, .int t_rows, .ref h_t_row, .ref h_t_free, .int t_frees, .ref h_t_worth, .ref h_t_fore, .ref h_t_back, .int t_fewest, .ref h_t_got])), (h_t_slot, jI D 240 t_slot_)]) (ws2 := [(h_t, .inr (8, [.int t_length, .ref h_t_text, .int t_at, .ref h_t_told, .ref h_t_touches, .ref h_t_has, .ref h_t_old, .ref h_t_beside, .int t_stones, .ref h_t_slot, .int t_kept, .int t_done, .int t_rows, .ref h_t_row, .ref h_t_free, .int t_frees, .ref h_t_worth, .ref h_t_fore, .ref h_t_back, .int t_fewest, .ref h_t_got])), (h_t_slot, jI D 240 t_slot_)]) rfl rfl rfl rfl rfl (Nat.le_of_ble_eq_true rfl) dX10_rain_6 ?_
  refine j_if_ne C (tgt := 14) dX10_rain_9 (by decide) h (fun c3 h => ?_) (fun c3 h => ?_)
  · refine j_iconst C dX10_rain_12 (v := (-1 : Int32)) (by decide) ?_
    exact j_iretR C (r := r) (rtf := fun r => (some (.int r.1))) (wff := fun r => (oX10_rain D h_t h_t_text h_t_told h_t_touches h_t_has h_t_old h_t_beside h_t_slot h_t_row h_t_free h_t_worth h_t_fore h_t_back h_t_got t_length t_at t_stones t_kept t_rows t_frees t_fewest r)) E h rfl rfl dX10_rain_13
  · refine j_aload_n C dX10_rain_14 rfl 0 rfl ?_
    refine j_get C ibX10 (ci := 8) 0 rfl rfl 9 (by decide) bfX10_30 (v := .ref h_t_slot) rfl dX10_rain_15 ?_
    refine j_bipush C dX10_rain_18 (v := (18 : Int32)) (by decide) ?_
    refine j_iald C 1 rfl (by unfold vp_in; decide) dX10_rain_20 ?_
    refine j_if_ne C (tgt := 27) dX10_rain_21 (by decide) h (fun c4 h => ?_) (fun c4 h => ?_)
    · refine j_bipush C dX10_rain_24 (v := (-2 : Int32)) (by decide) ?_
      exact j_iretR C (r := r) (rtf := fun r => (some (.int r.1))) (wff := fun r => (oX10_rain D h_t h_t_text h_t_told h_t_touches h_t_has h_t_old h_t_beside h_t_slot h_t_row h_t_free h_t_worth h_t_fore h_t_back h_t_got t_length t_at t_stones t_kept t_rows t_frees t_fewest r)) E h rfl rfl dX10_rain_26
    · refine j_aload_n C dX10_rain_27 rfl 0 rfl ?_
      obtain ⟨r5, q6, h⟩ := jl_bind h
      refine j_cV0 C (mX10_known (jlaunch X) D F h_t h_t_text h_t_told h_t_touches h_t_has h_t_old h_t_beside h_t_slot h_t_row h_t_free h_t_worth h_t_fore h_t_back h_t_got t_length t_at t_stones t_kept t_done t_rows t_frees t_fewest t_slot_ r5 q6) bmX10_134 biX10_known bsX10_known bzX10 bcX10_known rfl hX10_known (rest := []) rfl (jroom_of rfl) 0 (ci := 8) rfl rfl rfl [0, 1] [] [0, 1] (wr := []) (ws2 := [(h_t, .inr (8, [.int t_length, .ref h_t_text, .int t_at, .ref h_t_told, .ref h_t_touches, .ref h_t_has, .ref h_t_old, .ref h_t_beside, .int t_stones, .ref h_t_slot, .int t_kept, .int r5.1, .int t_rows, .ref h_t_row, .ref h_t_free, .int t_frees, .ref h_t_worth, .ref h_t_fore, .ref h_t_back, .int t_fewest, .ref h_t_got])), (h_t_slot, jI D 240 r5.2)]) rfl rfl rfl rfl rfl (Nat.le_of_ble_eq_true rfl) dX10_rain_28 ?_
      refine j_iconst C dX10_rain_31 (v := (0 : Int32)) (by decide) ?_
      refine j_istore_nC C dX10_rain_32 rfl (lv' := [(2, .int ((0 : Int32))), (0, .ref h_t), (1, .int p1)]) (by decide) rfl ?_
      refine j_sub (lv' := [(0, .ref h_t), (1, .int p1), (2, .int ((0 : Int32)))]) [1, 2, 0] rfl ?_
      exact L33 ((0 : Int32)) r5.1 r5.2 h
theorem dX10_pass_0 : decode cX10_pass 0 = .ok (.aload_n 0, 1) := by decide +kernel
theorem dX10_pass_1 : decode cX10_pass 1 = .ok (.iconst 0, 1) := by decide +kernel
theorem dX10_pass_2 : decode cX10_pass 2 = .ok (.invokevirtual 144, 3) := by decide +kernel
theorem dX10_pass_5 : decode cX10_pass 5 = .ok (.ifCond .le 6, 3) := by decide +kernel
theorem dX10_pass_8 : decode cX10_pass 8 = .ok (.bipush (-2), 2) := by decide +kernel
theorem dX10_pass_10 : decode cX10_pass 10 = .ok (.ireturn, 1) := by decide +kernel
theorem dX10_pass_11 : decode cX10_pass 11 = .ok (.aload_n 0, 1) := by decide +kernel
theorem dX10_pass_12 : decode cX10_pass 12 = .ok (.invokevirtual 134, 3) := by decide +kernel
theorem dX10_pass_15 : decode cX10_pass 15 = .ok (.aload_n 0, 1) := by decide +kernel
theorem dX10_pass_16 : decode cX10_pass 16 = .ok (.getfield 30, 3) := by decide +kernel
theorem dX10_pass_19 : decode cX10_pass 19 = .ok (.bipush 19, 2) := by decide +kernel
theorem dX10_pass_21 : decode cX10_pass 21 = .ok (.iconst 1, 1) := by decide +kernel
theorem dX10_pass_22 : decode cX10_pass 22 = .ok (.aload_n 0, 1) := by decide +kernel
theorem dX10_pass_23 : decode cX10_pass 23 = .ok (.getfield 30, 3) := by decide +kernel
theorem dX10_pass_26 : decode cX10_pass 26 = .ok (.bipush 19, 2) := by decide +kernel
theorem dX10_pass_28 : decode cX10_pass 28 = .ok (.iaload, 1) := by decide +kernel
theorem dX10_pass_29 : decode cX10_pass 29 = .ok (.isub, 1) := by decide +kernel
theorem dX10_pass_30 : decode cX10_pass 30 = .ok (.iastore, 1) := by decide +kernel
theorem dX10_pass_31 : decode cX10_pass 31 = .ok (.aload_n 0, 1) := by decide +kernel
theorem dX10_pass_32 : decode cX10_pass 32 = .ok (.getfield 30, 3) := by decide +kernel
theorem dX10_pass_35 : decode cX10_pass 35 = .ok (.bipush 19, 2) := by decide +kernel
theorem dX10_pass_37 : decode cX10_pass 37 = .ok (.iaload, 1) := by decide +kernel
theorem dX10_pass_38 : decode cX10_pass 38 = .ok (.ireturn, 1) := by decide +kernel
def fX10_pass (F : Nat) (t_stones : Int32) (t_done : Int32) (t_told_ : Nat → Int32) (t_touches_ : Nat → Int32) (t_has_ : Nat → Int32) (t_beside_ : Nat → Int32) (t_slot_ : Nat → Int32) : Option (Int32 × Int32 × (Nat → Int32)) :=
((fX10_mays F t_stones t_told_ t_touches_ t_has_ t_beside_ t_slot_ ((0 : Int32))).bind fun r1 =>
(if r1 ≤ 0 then
((fX10_known F t_done t_slot_).bind fun r4 =>
(jl_let (upd r4.2 ((19 : Int32)).toNatClampNeg (((1 : Int32)) - (r4.2 ((19 : Int32)).toNatClampNeg))) fun g6 =>
(some (g6 ((19 : Int32)).toNatClampNeg, r4.1, g6))))
else
(some ((-2 : Int32), t_done, t_slot_))))
def oX10_pass (D : jv_D) (h_t : Nat) (h_t_text : Nat) (h_t_told : Nat) (h_t_touches : Nat) (h_t_has : Nat) (h_t_old : Nat) (h_t_beside : Nat) (h_t_slot : Nat) (h_t_row : Nat) (h_t_free : Nat) (h_t_worth : Nat) (h_t_fore : Nat) (h_t_back : Nat) (h_t_got : Nat) (t_length : Int32) (t_at : Int32) (t_stones : Int32) (t_kept : Int32) (t_rows : Int32) (t_frees : Int32) (t_fewest : Int32) (t_told_ : Nat → Int32) (t_touches_ : Nat → Int32) (t_has_ : Nat → Int32) (t_beside_ : Nat → Int32) (r : Int32 × Int32 × (Nat → Int32)) : va_W := [(h_t, .inr (8, [.int t_length, .ref h_t_text, .int t_at, .ref h_t_told, .ref h_t_touches, .ref h_t_has, .ref h_t_old, .ref h_t_beside, .int t_stones, .ref h_t_slot, .int t_kept, .int r.2.1, .int t_rows, .ref h_t_row, .ref h_t_free, .int t_frees, .ref h_t_worth, .ref h_t_fore, .ref h_t_back, .int t_fewest, .ref h_t_got])), (h_t_told, jI D 8 t_told_), (h_t_touches, jZ D 32 t_touches_), (h_t_has, jI D 4 t_has_), (h_t_beside, jI D 9 t_beside_), (h_t_slot, jI D 240 r.2.2)]
set_option maxHeartbeats 40000000 in
set_option maxRecDepth 100000 in
theorem mX10_pass (l : Launch) (D : jv_D) (F : Nat) (h_t : Nat) (h_t_text : Nat) (h_t_told : Nat) (h_t_touches : Nat) (h_t_has : Nat) (h_t_old : Nat) (h_t_beside : Nat) (h_t_slot : Nat) (h_t_row : Nat) (h_t_free : Nat) (h_t_worth : Nat) (h_t_fore : Nat) (h_t_back : Nat) (h_t_got : Nat) (t_length : Int32) (t_at : Int32) (t_stones : Int32) (t_kept : Int32) (t_done : Int32) (t_rows : Int32) (t_frees : Int32) (t_fewest : Int32) (t_told_ : Nat → Int32) (t_touches_ : Nat → Int32) (t_has_ : Nat → Int32) (t_beside_ : Nat → Int32) (t_slot_ : Nat → Int32) (r : Int32 × Int32 × (Nat → Int32)) (h : fX10_pass F t_stones t_done t_told_ t_touches_ t_has_ t_beside_ t_slot_ = some r) : MM l yX10_pass (jW yX10_pass cX10_pass 1 (some .int)) ({ frames := 3, cells := 0, slots := 0, locals := 73 }) D [.ref h_t] [(h_t, .inr (8, [.int t_length, .ref h_t_text, .int t_at, .ref h_t_told, .ref h_t_touches, .ref h_t_has, .ref h_t_old, .ref h_t_beside, .int t_stones, .ref h_t_slot, .int t_kept, .int t_done, .int t_rows, .ref h_t_row, .ref h_t_free, .int t_frees, .ref h_t_worth, .ref h_t_fore, .ref h_t_back, .int t_fewest, .ref h_t_got])), (h_t_told, jI D 8 t_told_), (h_t_touches, jZ D 32 t_touches_), (h_t_has, jI D 4 t_has_), (h_t_beside, jI D 9 t_beside_), (h_t_slot, jI D 240 t_slot_)] (some (.int r.1)) (oX10_pass D h_t h_t_text h_t_told h_t_touches h_t_has h_t_old h_t_beside h_t_slot h_t_row h_t_free h_t_worth h_t_fore h_t_back h_t_got t_length t_at t_stones t_kept t_rows t_frees t_fewest t_told_ t_touches_ t_has_ t_beside_ r) := by
  refine mn_of hpX10_pass (Nat.le_of_ble_eq_true rfl) ?_
  intro X hXl C E0 hN
  subst hXl
  replace C : JC D X 1 RX10 cX10_pass ({ frames := 3, cells := 0, slots := 0, locals := 73 }) := C
  have E : JE D X 0 0 (some .int) (fun _ : Unit => (some (.int r.1))) (fun _ : Unit => (oX10_pass D h_t h_t_text h_t_told h_t_touches h_t_has h_t_old h_t_beside h_t_slot h_t_row h_t_free h_t_worth h_t_fore h_t_back h_t_got t_length t_at t_stones t_kept t_rows t_frees t_fewest t_told_ t_touches_ t_has_ t_beside_ r)) := E0 0 0 rfl rfl
  clear E0 hN
  show JJ D X 1 0 0 0 [(0, .ref h_t)] [] [(h_t, .inr (8, [.int t_length, .ref h_t_text, .int t_at, .ref h_t_told, .ref h_t_touches, .ref h_t_has, .ref h_t_old, .ref h_t_beside, .int t_stones, .ref h_t_slot, .int t_kept, .int t_done, .int t_rows, .ref h_t_row, .ref h_t_free, .int t_frees, .ref h_t_worth, .ref h_t_fore, .ref h_t_back, .int t_fewest, .ref h_t_got])), (h_t_told, jI D 8 t_told_), (h_t_touches, jZ D 32 t_touches_), (h_t_has, jI D 4 t_has_), (h_t_beside, jI D 9 t_beside_), (h_t_slot, jI D 240 t_slot_)]
  unfold fX10_pass at h
  refine j_aload_n C dX10_pass_0 rfl 0 rfl ?_
  refine j_iconst C dX10_pass_1 (v := (0 : Int32)) (by decide) ?_
  obtain ⟨r1, q2, h⟩ := jl_bind h
  refine j_cV1 C (mX10_mays (jlaunch X) D F h_t h_t_text h_t_told h_t_touches h_t_has h_t_old h_t_beside h_t_slot h_t_row h_t_free h_t_worth h_t_fore h_t_back h_t_got t_length t_at t_stones t_kept t_done t_rows t_frees t_fewest t_told_ t_touches_ t_has_ t_beside_ t_slot_ ((0 : Int32)) r1 q2) bmX10_144 biX10_mays bsX10_mays bzX10 bcX10_mays rfl hX10_mays (rest := []) rfl (jroom_of rfl) 0 (ci := 8) rfl rfl rfl [0, 1, 2, 3, 4, 5] [] [0, 1, 2, 3, 4, 5] (wr := []) (ws2 := [(h_t, .inr (8, [.int t_length, .ref h_t_text, .int t_at, .ref h_t_told, .ref h_t_touches, .ref h_t_has, .ref h_t_old, .ref h_t_beside, .int t_stones, .ref h_t_slot, .int t_kept, .int t_done, .int t_rows, .ref h_t_row, .ref h_t_free, .int t_frees, .ref h_t_worth, .ref h_t_fore, .ref h_t_back, .int t_fewest, .ref h_t_got])), (h_t_told, jI D 8 t_told_), (h_t_touches, jZ D 32 t_touches_), (h_t_has, jI D 4 t_has_), (h_t_beside, jI D 9 t_beside_), (h_t_slot, jI D 240 t_slot_)]) rfl rfl rfl rfl rfl (Nat.le_of_ble_eq_true rfl) dX10_pass_2 ?_
  refine j_if_le C (tgt := 11) dX10_pass_5 (by decide) h (fun c3 h => ?_) (fun c3 h => ?_)
  · refine j_aload_n C dX10_pass_11 rfl 0 rfl ?_
    obtain ⟨r4, q5, h⟩ := jl_bind h
    refine j_cV0 C (mX10_known (jlaunch X) D F h_t h_t_text h_t_told h_t_touches h_t_has h_t_old h_t_beside h_t_slot h_t_row h_t_free h_t_worth h_t_fore h_t_back h_t_got t_length t_at t_stones t_kept t_done t_rows t_frees t_fewest t_slot_ r4 q5) bmX10_134 biX10_known bsX10_known bzX10 bcX10_known rfl hX10_known (rest := []) rfl (jroom_of rfl) 0 (ci := 8) rfl rfl rfl [0, 5] [1, 2, 3, 4] [4, 0, 1, 2, 3, 5] (wr := [(h_t_told, jI D 8 t_told_), (h_t_touches, jZ D 32 t_touches_), (h_t_has, jI D 4 t_has_), (h_t_beside, jI D 9 t_beside_)]) (ws2 := [(h_t, .inr (8, [.int t_length, .ref h_t_text, .int t_at, .ref h_t_told, .ref h_t_touches, .ref h_t_has, .ref h_t_old, .ref h_t_beside, .int t_stones, .ref h_t_slot, .int t_kept, .int r4.1, .int t_rows, .ref h_t_row, .ref h_t_free, .int t_frees, .ref h_t_worth, .ref h_t_fore, .ref h_t_back, .int t_fewest, .ref h_t_got])), (h_t_told, jI D 8 t_told_), (h_t_touches, jZ D 32 t_touches_), (h_t_has, jI D 4 t_has_), (h_t_beside, jI D 9 t_beside_), (h_t_slot, jI D 240 r4.2)]) rfl rfl rfl rfl rfl (Nat.le_of_ble_eq_true rfl) dX10_pass_12 ?_
    refine j_aload_n C dX10_pass_15 rfl 0 rfl ?_
    refine j_get C ibX10 (ci := 8) 0 rfl rfl 9 (by decide) bfX10_30 (v := .ref h_t_slot) rfl dX10_pass_16 ?_
    refine j_bipush C dX10_pass_19 (v := (19 : Int32)) (by decide) ?_
    refine j_iconst C dX10_pass_21 (v := (1 : Int32)) (by decide) ?_
    refine j_aload_n C dX10_pass_22 rfl 0 rfl ?_
    refine j_get C ibX10 (ci := 8) 0 rfl rfl 9 (by decide) bfX10_30 (v := .ref h_t_slot) rfl dX10_pass_23 ?_
    refine j_bipush C dX10_pass_26 (v := (19 : Int32)) (by decide) ?_
    refine j_iald C 5 rfl (by unfold vp_in; decide) dX10_pass_28 ?_
    refine j_isub C dX10_pass_29 ?_
    refine j_iast C 5 rfl (by unfold vp_in; decide) dX10_pass_30 (ws' := fun g6 => [(h_t, .inr (8, [.int t_length, .ref h_t_text, .int t_at, .ref h_t_told, .ref h_t_touches, .ref h_t_has, .ref h_t_old, .ref h_t_beside, .int t_stones, .ref h_t_slot, .int t_kept, .int r4.1, .int t_rows, .ref h_t_row, .ref h_t_free, .int t_frees, .ref h_t_worth, .ref h_t_fore, .ref h_t_back, .int t_fewest, .ref h_t_got])), (h_t_told, jI D 8 t_told_), (h_t_touches, jZ D 32 t_touches_), (h_t_has, jI D 4 t_has_), (h_t_beside, jI D 9 t_beside_), (h_t_slot, jI D 240 g6)]) (fun _ => rfl) h (fun g6 h => ?_)
    refine j_aload_n C dX10_pass_31 rfl 0 rfl ?_
    refine j_get C ibX10 (ci := 8) 0 rfl rfl 9 (by decide) bfX10_30 (v := .ref h_t_slot) rfl dX10_pass_32 ?_
    refine j_bipush C dX10_pass_35 (v := (19 : Int32)) (by decide) ?_
    refine j_iald C 5 rfl (by unfold vp_in; decide) dX10_pass_37 ?_
    exact j_iretR C (r := r) (rtf := fun r => (some (.int r.1))) (wff := fun r => (oX10_pass D h_t h_t_text h_t_told h_t_touches h_t_has h_t_old h_t_beside h_t_slot h_t_row h_t_free h_t_worth h_t_fore h_t_back h_t_got t_length t_at t_stones t_kept t_rows t_frees t_fewest t_told_ t_touches_ t_has_ t_beside_ r)) E h rfl rfl dX10_pass_38
  · refine j_bipush C dX10_pass_8 (v := (-2 : Int32)) (by decide) ?_
    exact j_iretR C (r := r) (rtf := fun r => (some (.int r.1))) (wff := fun r => (oX10_pass D h_t h_t_text h_t_told h_t_touches h_t_has h_t_old h_t_beside h_t_slot h_t_row h_t_free h_t_worth h_t_fore h_t_back h_t_got t_length t_at t_stones t_kept t_rows t_frees t_fewest t_told_ t_touches_ t_has_ t_beside_ r)) E h rfl rfl dX10_pass_10
theorem dX10_undo_0 : decode cX10_undo 0 = .ok (.aload_n 0, 1) := by decide +kernel
theorem dX10_undo_1 : decode cX10_undo 1 = .ok (.getfield 97, 3) := by decide +kernel
theorem dX10_undo_4 : decode cX10_undo 4 = .ok (.ifCond .ne 6, 3) := by decide +kernel
theorem dX10_undo_7 : decode cX10_undo 7 = .ok (.bipush (-2), 2) := by decide +kernel
theorem dX10_undo_9 : decode cX10_undo 9 = .ok (.ireturn, 1) := by decide +kernel
theorem dX10_undo_10 : decode cX10_undo 10 = .ok (.aload_n 0, 1) := by decide +kernel
theorem dX10_undo_11 : decode cX10_undo 11 = .ok (.dup, 1) := by decide +kernel
theorem dX10_undo_12 : decode cX10_undo 12 = .ok (.getfield 97, 3) := by decide +kernel
theorem dX10_undo_15 : decode cX10_undo 15 = .ok (.iconst 1, 1) := by decide +kernel
theorem dX10_undo_16 : decode cX10_undo 16 = .ok (.isub, 1) := by decide +kernel
theorem dX10_undo_17 : decode cX10_undo 17 = .ok (.putfield 97, 3) := by decide +kernel
theorem dX10_undo_20 : decode cX10_undo 20 = .ok (.aload_n 0, 1) := by decide +kernel
theorem dX10_undo_21 : decode cX10_undo 21 = .ok (.iconst 3, 1) := by decide +kernel
theorem dX10_undo_22 : decode cX10_undo 22 = .ok (.aload_n 0, 1) := by decide +kernel
theorem dX10_undo_23 : decode cX10_undo 23 = .ok (.getfield 97, 3) := by decide +kernel
theorem dX10_undo_26 : decode cX10_undo 26 = .ok (.iadd, 1) := by decide +kernel
theorem dX10_undo_27 : decode cX10_undo 27 = .ok (.iconst 0, 1) := by decide +kernel
theorem dX10_undo_28 : decode cX10_undo 28 = .ok (.invokevirtual 130, 3) := by decide +kernel
theorem dX10_undo_31 : decode cX10_undo 31 = .ok (.aload_n 0, 1) := by decide +kernel
theorem dX10_undo_32 : decode cX10_undo 32 = .ok (.getfield 97, 3) := by decide +kernel
theorem dX10_undo_35 : decode cX10_undo 35 = .ok (.ireturn, 1) := by decide +kernel
def fX10_undo (F : Nat) (t_done : Int32) (t_slot_ : Nat → Int32) : Option (Int32 × Int32 × (Nat → Int32)) :=
(if t_done = 0 then
(some ((-2 : Int32), t_done, t_slot_))
else
(jl_let (t_done - ((1 : Int32))) fun w2 =>
((fX10_copies F t_slot_ (((3 : Int32)) + w2) ((0 : Int32))).bind fun r3 =>
(some (w2, w2, r3)))))
def oX10_undo (D : jv_D) (h_t : Nat) (h_t_text : Nat) (h_t_told : Nat) (h_t_touches : Nat) (h_t_has : Nat) (h_t_old : Nat) (h_t_beside : Nat) (h_t_slot : Nat) (h_t_row : Nat) (h_t_free : Nat) (h_t_worth : Nat) (h_t_fore : Nat) (h_t_back : Nat) (h_t_got : Nat) (t_length : Int32) (t_at : Int32) (t_stones : Int32) (t_kept : Int32) (t_rows : Int32) (t_frees : Int32) (t_fewest : Int32) (r : Int32 × Int32 × (Nat → Int32)) : va_W := [(h_t, .inr (8, [.int t_length, .ref h_t_text, .int t_at, .ref h_t_told, .ref h_t_touches, .ref h_t_has, .ref h_t_old, .ref h_t_beside, .int t_stones, .ref h_t_slot, .int t_kept, .int r.2.1, .int t_rows, .ref h_t_row, .ref h_t_free, .int t_frees, .ref h_t_worth, .ref h_t_fore, .ref h_t_back, .int t_fewest, .ref h_t_got])), (h_t_slot, jI D 240 r.2.2)]
set_option maxHeartbeats 40000000 in
set_option maxRecDepth 100000 in
theorem mX10_undo (l : Launch) (D : jv_D) (F : Nat) (h_t : Nat) (h_t_text : Nat) (h_t_told : Nat) (h_t_touches : Nat) (h_t_has : Nat) (h_t_old : Nat) (h_t_beside : Nat) (h_t_slot : Nat) (h_t_row : Nat) (h_t_free : Nat) (h_t_worth : Nat) (h_t_fore : Nat) (h_t_back : Nat) (h_t_got : Nat) (t_length : Int32) (t_at : Int32) (t_stones : Int32) (t_kept : Int32) (t_done : Int32) (t_rows : Int32) (t_frees : Int32) (t_fewest : Int32) (t_slot_ : Nat → Int32) (r : Int32 × Int32 × (Nat → Int32)) (h : fX10_undo F t_done t_slot_ = some r) : MM l yX10_undo (jW yX10_undo cX10_undo 1 (some .int)) ({ frames := 1, cells := 0, slots := 0, locals := 23 }) D [.ref h_t] [(h_t, .inr (8, [.int t_length, .ref h_t_text, .int t_at, .ref h_t_told, .ref h_t_touches, .ref h_t_has, .ref h_t_old, .ref h_t_beside, .int t_stones, .ref h_t_slot, .int t_kept, .int t_done, .int t_rows, .ref h_t_row, .ref h_t_free, .int t_frees, .ref h_t_worth, .ref h_t_fore, .ref h_t_back, .int t_fewest, .ref h_t_got])), (h_t_slot, jI D 240 t_slot_)] (some (.int r.1)) (oX10_undo D h_t h_t_text h_t_told h_t_touches h_t_has h_t_old h_t_beside h_t_slot h_t_row h_t_free h_t_worth h_t_fore h_t_back h_t_got t_length t_at t_stones t_kept t_rows t_frees t_fewest r) := by
  refine mn_of hpX10_undo (Nat.le_of_ble_eq_true rfl) ?_
  intro X hXl C E0 hN
  subst hXl
  replace C : JC D X 1 RX10 cX10_undo ({ frames := 1, cells := 0, slots := 0, locals := 23 }) := C
  have E : JE D X 0 0 (some .int) (fun _ : Unit => (some (.int r.1))) (fun _ : Unit => (oX10_undo D h_t h_t_text h_t_told h_t_touches h_t_has h_t_old h_t_beside h_t_slot h_t_row h_t_free h_t_worth h_t_fore h_t_back h_t_got t_length t_at t_stones t_kept t_rows t_frees t_fewest r)) := E0 0 0 rfl rfl
  clear E0 hN
  show JJ D X 1 0 0 0 [(0, .ref h_t)] [] [(h_t, .inr (8, [.int t_length, .ref h_t_text, .int t_at, .ref h_t_told, .ref h_t_touches, .ref h_t_has, .ref h_t_old, .ref h_t_beside, .int t_stones, .ref h_t_slot, .int t_kept, .int t_done, .int t_rows, .ref h_t_row, .ref h_t_free, .int t_frees, .ref h_t_worth, .ref h_t_fore, .ref h_t_back, .int t_fewest, .ref h_t_got])), (h_t_slot, jI D 240 t_slot_)]
  unfold fX10_undo at h
  refine j_aload_n C dX10_undo_0 rfl 0 rfl ?_
  refine j_get C ibX10 (ci := 8) 0 rfl rfl 11 (by decide) bfX10_97 (v := .int t_done) rfl dX10_undo_1 ?_
  refine j_if_ne C (tgt := 10) dX10_undo_4 (by decide) h (fun c1 h => ?_) (fun c1 h => ?_)
  · refine j_bipush C dX10_undo_7 (v := (-2 : Int32)) (by decide) ?_
    exact j_iretR C (r := r) (rtf := fun r => (some (.int r.1))) (wff := fun r => (oX10_undo D h_t h_t_text h_t_told h_t_touches h_t_has h_t_old h_t_beside h_t_slot h_t_row h_t_free h_t_worth h_t_fore h_t_back h_t_got t_length t_at t_stones t_kept t_rows t_frees t_fewest r)) E h rfl rfl dX10_undo_9
  · refine j_aload_n C dX10_undo_10 rfl 0 rfl ?_
    refine j_dup C dX10_undo_11 rfl ?_
    refine j_get C ibX10 (ci := 8) 0 rfl rfl 11 (by decide) bfX10_97 (v := .int t_done) rfl dX10_undo_12 ?_
    refine j_iconst C dX10_undo_15 (v := (1 : Int32)) (by decide) ?_
    refine j_isub C dX10_undo_16 ?_
    refine j_nmi h (fun w2 h => ?_)
    refine j_put C ibX10 tyX10 tyX10_ok nmX10 (ci := 8) 0 rfl rfl 11 (by decide) bfX10_97 rfl rfl rfl (Nat.le_of_ble_eq_true rfl) dX10_undo_17 (ws' := [(h_t, .inr (8, [.int t_length, .ref h_t_text, .int t_at, .ref h_t_told, .ref h_t_touches, .ref h_t_has, .ref h_t_old, .ref h_t_beside, .int t_stones, .ref h_t_slot, .int t_kept, .int w2, .int t_rows, .ref h_t_row, .ref h_t_free, .int t_frees, .ref h_t_worth, .ref h_t_fore, .ref h_t_back, .int t_fewest, .ref h_t_got])), (h_t_slot, jI D 240 t_slot_)]) rfl ?_
    refine j_aload_n C dX10_undo_20 rfl 0 rfl ?_
    refine j_iconst C dX10_undo_21 (v := (3 : Int32)) (by decide) ?_
    refine j_aload_n C dX10_undo_22 rfl 0 rfl ?_
    refine j_get C ibX10 (ci := 8) 0 rfl rfl 11 (by decide) bfX10_97 (v := .int w2) rfl dX10_undo_23 ?_
    refine j_iadd C dX10_undo_26 ?_
    refine j_iconst C dX10_undo_27 (v := (0 : Int32)) (by decide) ?_
    obtain ⟨r3, q4, h⟩ := jl_bind h
    refine j_cV0 C (mX10_copies (jlaunch X) D F h_t h_t_text h_t_told h_t_touches h_t_has h_t_old h_t_beside h_t_slot h_t_row h_t_free h_t_worth h_t_fore h_t_back h_t_got t_length t_at t_stones t_kept w2 t_rows t_frees t_fewest t_slot_ (((3 : Int32)) + w2) ((0 : Int32)) r3 q4) bmX10_130 biX10_copies bsX10_copies bzX10 bcX10_copies rfl hX10_copies (rest := []) rfl (jroom_of rfl) 0 (ci := 8) rfl rfl rfl [0, 1] [] [0, 1] (wr := []) (ws2 := [(h_t, .inr (8, [.int t_length, .ref h_t_text, .int t_at, .ref h_t_told, .ref h_t_touches, .ref h_t_has, .ref h_t_old, .ref h_t_beside, .int t_stones, .ref h_t_slot, .int t_kept, .int w2, .int t_rows, .ref h_t_row, .ref h_t_free, .int t_frees, .ref h_t_worth, .ref h_t_fore, .ref h_t_back, .int t_fewest, .ref h_t_got])), (h_t_slot, jI D 240 r3)]) rfl rfl rfl rfl rfl (Nat.le_of_ble_eq_true rfl) dX10_undo_28 ?_
    refine j_aload_n C dX10_undo_31 rfl 0 rfl ?_
    refine j_get C ibX10 (ci := 8) 0 rfl rfl 11 (by decide) bfX10_97 (v := .int w2) rfl dX10_undo_32 ?_
    exact j_iretR C (r := r) (rtf := fun r => (some (.int r.1))) (wff := fun r => (oX10_undo D h_t h_t_text h_t_told h_t_touches h_t_has h_t_old h_t_beside h_t_slot h_t_row h_t_free h_t_worth h_t_fore h_t_back h_t_got t_length t_at t_stones t_kept t_rows t_frees t_fewest r)) E h rfl rfl dX10_undo_35
theorem dX10_tell_0 : decode cX10_tell 0 = .ok (.aload_n 0, 1) := by decide +kernel
theorem dX10_tell_1 : decode cX10_tell 1 = .ok (.iload_n 1, 1) := by decide +kernel
theorem dX10_tell_2 : decode cX10_tell 2 = .ok (.invokevirtual 117, 3) := by decide +kernel
theorem dX10_tell_5 : decode cX10_tell 5 = .ok (.ifCond .eq 11, 3) := by decide +kernel
theorem dX10_tell_8 : decode cX10_tell 8 = .ok (.aload_n 0, 1) := by decide +kernel
theorem dX10_tell_9 : decode cX10_tell 9 = .ok (.iload_n 2, 1) := by decide +kernel
theorem dX10_tell_10 : decode cX10_tell 10 = .ok (.invokevirtual 120, 3) := by decide +kernel
theorem dX10_tell_13 : decode cX10_tell 13 = .ok (.ifCond .ne 5, 3) := by decide +kernel
theorem dX10_tell_16 : decode cX10_tell 16 = .ok (.iconst (-1), 1) := by decide +kernel
theorem dX10_tell_17 : decode cX10_tell 17 = .ok (.ireturn, 1) := by decide +kernel
theorem dX10_tell_18 : decode cX10_tell 18 = .ok (.aload_n 0, 1) := by decide +kernel
theorem dX10_tell_19 : decode cX10_tell 19 = .ok (.getfield 94, 3) := by decide +kernel
theorem dX10_tell_22 : decode cX10_tell 22 = .ok (.bipush 9, 2) := by decide +kernel
theorem dX10_tell_24 : decode cX10_tell 24 = .ok (.if_icmp .ne 6, 3) := by decide +kernel
theorem dX10_tell_27 : decode cX10_tell 27 = .ok (.bipush (-3), 2) := by decide +kernel
theorem dX10_tell_29 : decode cX10_tell 29 = .ok (.ireturn, 1) := by decide +kernel
theorem dX10_tell_30 : decode cX10_tell 30 = .ok (.aload_n 0, 1) := by decide +kernel
theorem dX10_tell_31 : decode cX10_tell 31 = .ok (.getfield 33, 3) := by decide +kernel
theorem dX10_tell_34 : decode cX10_tell 34 = .ok (.iconst 2, 1) := by decide +kernel
theorem dX10_tell_35 : decode cX10_tell 35 = .ok (.aload_n 0, 1) := by decide +kernel
theorem dX10_tell_36 : decode cX10_tell 36 = .ok (.getfield 94, 3) := by decide +kernel
theorem dX10_tell_39 : decode cX10_tell 39 = .ok (.imul, 1) := by decide +kernel
theorem dX10_tell_40 : decode cX10_tell 40 = .ok (.iload_n 1, 1) := by decide +kernel
theorem dX10_tell_41 : decode cX10_tell 41 = .ok (.iastore, 1) := by decide +kernel
theorem dX10_tell_42 : decode cX10_tell 42 = .ok (.aload_n 0, 1) := by decide +kernel
theorem dX10_tell_43 : decode cX10_tell 43 = .ok (.getfield 33, 3) := by decide +kernel
theorem dX10_tell_46 : decode cX10_tell 46 = .ok (.iconst 2, 1) := by decide +kernel
theorem dX10_tell_47 : decode cX10_tell 47 = .ok (.aload_n 0, 1) := by decide +kernel
theorem dX10_tell_48 : decode cX10_tell 48 = .ok (.getfield 94, 3) := by decide +kernel
theorem dX10_tell_51 : decode cX10_tell 51 = .ok (.imul, 1) := by decide +kernel
theorem dX10_tell_52 : decode cX10_tell 52 = .ok (.iconst 1, 1) := by decide +kernel
theorem dX10_tell_53 : decode cX10_tell 53 = .ok (.iadd, 1) := by decide +kernel
theorem dX10_tell_54 : decode cX10_tell 54 = .ok (.iload_n 2, 1) := by decide +kernel
theorem dX10_tell_55 : decode cX10_tell 55 = .ok (.iastore, 1) := by decide +kernel
theorem dX10_tell_56 : decode cX10_tell 56 = .ok (.aload_n 0, 1) := by decide +kernel
theorem dX10_tell_57 : decode cX10_tell 57 = .ok (.dup, 1) := by decide +kernel
theorem dX10_tell_58 : decode cX10_tell 58 = .ok (.getfield 94, 3) := by decide +kernel
theorem dX10_tell_61 : decode cX10_tell 61 = .ok (.iconst 1, 1) := by decide +kernel
theorem dX10_tell_62 : decode cX10_tell 62 = .ok (.iadd, 1) := by decide +kernel
theorem dX10_tell_63 : decode cX10_tell 63 = .ok (.putfield 94, 3) := by decide +kernel
theorem dX10_tell_66 : decode cX10_tell 66 = .ok (.aload_n 0, 1) := by decide +kernel
theorem dX10_tell_67 : decode cX10_tell 67 = .ok (.getfield 94, 3) := by decide +kernel
theorem dX10_tell_70 : decode cX10_tell 70 = .ok (.ireturn, 1) := by decide +kernel
def fX10_tell (t_stones : Int32) (t_rows : Int32) (t_told_ : Nat → Int32) (t_row_ : Nat → Int32) (p1 : Int32) (p2 : Int32) : Option (Int32 × Int32 × (Nat → Int32)) :=
((fX10_isStone t_stones p1).bind fun r1 =>
(if r1 = 0 then
(some ((-1 : Int32), t_rows, t_row_))
else
((fX10_isPaint t_told_ p2).bind fun r4 =>
(if r4 = 0 then
(some ((-1 : Int32), t_rows, t_row_))
else
(if t_rows = ((9 : Int32)) then
(some ((-3 : Int32), t_rows, t_row_))
else
(if (((2 : Int32)) * t_rows) < 0 ∨ 18 ≤ (((2 : Int32)) * t_rows).toNatClampNeg then none else
(jl_let (upd t_row_ (((2 : Int32)) * t_rows).toNatClampNeg p1) fun g9 =>
(if ((((2 : Int32)) * t_rows) + ((1 : Int32))) < 0 ∨ 18 ≤ ((((2 : Int32)) * t_rows) + ((1 : Int32))).toNatClampNeg then none else
(jl_let (upd g9 ((((2 : Int32)) * t_rows) + ((1 : Int32))).toNatClampNeg p2) fun g11 =>
(jl_let (t_rows + ((1 : Int32))) fun w12 =>
(some (w12, w12, g11))))))))))))
def oX10_tell (D : jv_D) (h_t : Nat) (h_t_text : Nat) (h_t_told : Nat) (h_t_touches : Nat) (h_t_has : Nat) (h_t_old : Nat) (h_t_beside : Nat) (h_t_slot : Nat) (h_t_row : Nat) (h_t_free : Nat) (h_t_worth : Nat) (h_t_fore : Nat) (h_t_back : Nat) (h_t_got : Nat) (t_length : Int32) (t_at : Int32) (t_stones : Int32) (t_kept : Int32) (t_done : Int32) (t_frees : Int32) (t_fewest : Int32) (t_told_ : Nat → Int32) (r : Int32 × Int32 × (Nat → Int32)) : va_W := [(h_t, .inr (8, [.int t_length, .ref h_t_text, .int t_at, .ref h_t_told, .ref h_t_touches, .ref h_t_has, .ref h_t_old, .ref h_t_beside, .int t_stones, .ref h_t_slot, .int t_kept, .int t_done, .int r.2.1, .ref h_t_row, .ref h_t_free, .int t_frees, .ref h_t_worth, .ref h_t_fore, .ref h_t_back, .int t_fewest, .ref h_t_got])), (h_t_told, jI D 8 t_told_), (h_t_row, jI D 18 r.2.2)]
set_option maxHeartbeats 40000000 in
set_option maxRecDepth 100000 in
theorem mX10_tell (l : Launch) (D : jv_D) (h_t : Nat) (h_t_text : Nat) (h_t_told : Nat) (h_t_touches : Nat) (h_t_has : Nat) (h_t_old : Nat) (h_t_beside : Nat) (h_t_slot : Nat) (h_t_row : Nat) (h_t_free : Nat) (h_t_worth : Nat) (h_t_fore : Nat) (h_t_back : Nat) (h_t_got : Nat) (t_length : Int32) (t_at : Int32) (t_stones : Int32) (t_kept : Int32) (t_done : Int32) (t_rows : Int32) (t_frees : Int32) (t_fewest : Int32) (t_told_ : Nat → Int32) (t_row_ : Nat → Int32) (p1 : Int32) (p2 : Int32) (r : Int32 × Int32 × (Nat → Int32)) (h : fX10_tell t_stones t_rows t_told_ t_row_ p1 p2 = some r) : MM l yX10_tell (jW yX10_tell cX10_tell 3 (some .int)) ({ frames := 2, cells := 0, slots := 0, locals := 46 }) D [.ref h_t, .int p1, .int p2] [(h_t, .inr (8, [.int t_length, .ref h_t_text, .int t_at, .ref h_t_told, .ref h_t_touches, .ref h_t_has, .ref h_t_old, .ref h_t_beside, .int t_stones, .ref h_t_slot, .int t_kept, .int t_done, .int t_rows, .ref h_t_row, .ref h_t_free, .int t_frees, .ref h_t_worth, .ref h_t_fore, .ref h_t_back, .int t_fewest, .ref h_t_got])), (h_t_told, jI D 8 t_told_), (h_t_row, jI D 18 t_row_)] (some (.int r.1)) (oX10_tell D h_t h_t_text h_t_told h_t_touches h_t_has h_t_old h_t_beside h_t_slot h_t_row h_t_free h_t_worth h_t_fore h_t_back h_t_got t_length t_at t_stones t_kept t_done t_frees t_fewest t_told_ r) := by
  refine mn_of hpX10_tell (Nat.le_of_ble_eq_true rfl) ?_
  intro X hXl C E0 hN
  subst hXl
  replace C : JC D X 3 RX10 cX10_tell ({ frames := 2, cells := 0, slots := 0, locals := 46 }) := C
  have E : JE D X 0 0 (some .int) (fun _ : Unit => (some (.int r.1))) (fun _ : Unit => (oX10_tell D h_t h_t_text h_t_told h_t_touches h_t_has h_t_old h_t_beside h_t_slot h_t_row h_t_free h_t_worth h_t_fore h_t_back h_t_got t_length t_at t_stones t_kept t_done t_frees t_fewest t_told_ r)) := E0 0 0 rfl rfl
  clear E0 hN
  show JJ D X 3 0 0 0 [(0, .ref h_t), (1, .int p1), (2, .int p2)] [] [(h_t, .inr (8, [.int t_length, .ref h_t_text, .int t_at, .ref h_t_told, .ref h_t_touches, .ref h_t_has, .ref h_t_old, .ref h_t_beside, .int t_stones, .ref h_t_slot, .int t_kept, .int t_done, .int t_rows, .ref h_t_row, .ref h_t_free, .int t_frees, .ref h_t_worth, .ref h_t_fore, .ref h_t_back, .int t_fewest, .ref h_t_got])), (h_t_told, jI D 8 t_told_), (h_t_row, jI D 18 t_row_)]
  unfold fX10_tell at h
  refine j_aload_n C dX10_tell_0 rfl 0 rfl ?_
  refine j_iload_n C dX10_tell_1 rfl 1 rfl ?_
  obtain ⟨r1, q2, h⟩ := jl_bind h
  refine j_cV1 C (mX10_isStone (jlaunch X) D h_t h_t_text h_t_told h_t_touches h_t_has h_t_old h_t_beside h_t_slot h_t_row h_t_free h_t_worth h_t_fore h_t_back h_t_got t_length t_at t_stones t_kept t_done t_rows t_frees t_fewest p1 r1 q2) bmX10_117 biX10_isStone bsX10_isStone bzX10 bcX10_isStone rfl hX10_isStone (rest := []) rfl (jroom_of rfl) 0 (ci := 8) rfl rfl rfl [0] [1, 2] [2, 0, 1] (wr := [(h_t_told, jI D 8 t_told_), (h_t_row, jI D 18 t_row_)]) (ws2 := [(h_t, .inr (8, [.int t_length, .ref h_t_text, .int t_at, .ref h_t_told, .ref h_t_touches, .ref h_t_has, .ref h_t_old, .ref h_t_beside, .int t_stones, .ref h_t_slot, .int t_kept, .int t_done, .int t_rows, .ref h_t_row, .ref h_t_free, .int t_frees, .ref h_t_worth, .ref h_t_fore, .ref h_t_back, .int t_fewest, .ref h_t_got])), (h_t_told, jI D 8 t_told_), (h_t_row, jI D 18 t_row_)]) rfl rfl rfl rfl rfl (Nat.le_of_ble_eq_true rfl) dX10_tell_2 ?_
  refine j_if_eq C (tgt := 16) dX10_tell_5 (by decide) h (fun c3 h => ?_) (fun c3 h => ?_)
  · refine j_iconst C dX10_tell_16 (v := (-1 : Int32)) (by decide) ?_
    exact j_iretR C (r := r) (rtf := fun r => (some (.int r.1))) (wff := fun r => (oX10_tell D h_t h_t_text h_t_told h_t_touches h_t_has h_t_old h_t_beside h_t_slot h_t_row h_t_free h_t_worth h_t_fore h_t_back h_t_got t_length t_at t_stones t_kept t_done t_frees t_fewest t_told_ r)) E h rfl rfl dX10_tell_17
  · refine j_aload_n C dX10_tell_8 rfl 0 rfl ?_
    refine j_iload_n C dX10_tell_9 rfl 2 rfl ?_
    obtain ⟨r4, q5, h⟩ := jl_bind h
    refine j_cV1 C (mX10_isPaint (jlaunch X) D h_t h_t_text h_t_told h_t_touches h_t_has h_t_old h_t_beside h_t_slot h_t_row h_t_free h_t_worth h_t_fore h_t_back h_t_got t_length t_at t_stones t_kept t_done t_rows t_frees t_fewest t_told_ p2 r4 q5) bmX10_120 biX10_isPaint bsX10_isPaint bzX10 bcX10_isPaint rfl hX10_isPaint (rest := []) rfl (jroom_of rfl) 0 (ci := 8) rfl rfl rfl [0, 1] [2] [1, 2, 0] (wr := [(h_t_row, jI D 18 t_row_)]) (ws2 := [(h_t, .inr (8, [.int t_length, .ref h_t_text, .int t_at, .ref h_t_told, .ref h_t_touches, .ref h_t_has, .ref h_t_old, .ref h_t_beside, .int t_stones, .ref h_t_slot, .int t_kept, .int t_done, .int t_rows, .ref h_t_row, .ref h_t_free, .int t_frees, .ref h_t_worth, .ref h_t_fore, .ref h_t_back, .int t_fewest, .ref h_t_got])), (h_t_told, jI D 8 t_told_), (h_t_row, jI D 18 t_row_)]) rfl rfl rfl rfl rfl (Nat.le_of_ble_eq_true rfl) dX10_tell_10 ?_
    refine j_if_ne C (tgt := 18) dX10_tell_13 (by decide) h (fun c6 h => ?_) (fun c6 h => ?_)
    · refine j_iconst C dX10_tell_16 (v := (-1 : Int32)) (by decide) ?_
      exact j_iretR C (r := r) (rtf := fun r => (some (.int r.1))) (wff := fun r => (oX10_tell D h_t h_t_text h_t_told h_t_touches h_t_has h_t_old h_t_beside h_t_slot h_t_row h_t_free h_t_worth h_t_fore h_t_back h_t_got t_length t_at t_stones t_kept t_done t_frees t_fewest t_told_ r)) E h rfl rfl dX10_tell_17
    · refine j_aload_n C dX10_tell_18 rfl 0 rfl ?_
      refine j_get C ibX10 (ci := 8) 0 rfl rfl 12 (by decide) bfX10_94 (v := .int t_rows) rfl dX10_tell_19 ?_
      refine j_bipush C dX10_tell_22 (v := (9 : Int32)) (by decide) ?_
      refine j_icmp_ne C (tgt := 30) dX10_tell_24 (by decide) h (fun c7 h => ?_) (fun c7 h => ?_)
      · refine j_bipush C dX10_tell_27 (v := (-3 : Int32)) (by decide) ?_
        exact j_iretR C (r := r) (rtf := fun r => (some (.int r.1))) (wff := fun r => (oX10_tell D h_t h_t_text h_t_told h_t_touches h_t_has h_t_old h_t_beside h_t_slot h_t_row h_t_free h_t_worth h_t_fore h_t_back h_t_got t_length t_at t_stones t_kept t_done t_frees t_fewest t_told_ r)) E h rfl rfl dX10_tell_29
      · refine j_aload_n C dX10_tell_30 rfl 0 rfl ?_
        refine j_get C ibX10 (ci := 8) 0 rfl rfl 13 (by decide) bfX10_33 (v := .ref h_t_row) rfl dX10_tell_31 ?_
        refine j_iconst C dX10_tell_34 (v := (2 : Int32)) (by decide) ?_
        refine j_aload_n C dX10_tell_35 rfl 0 rfl ?_
        refine j_get C ibX10 (ci := 8) 0 rfl rfl 12 (by decide) bfX10_94 (v := .int t_rows) rfl dX10_tell_36 ?_
        refine j_imul C dX10_tell_39 ?_
        refine j_iload_n C dX10_tell_40 rfl 1 rfl ?_
        refine jl_inb h (fun b8 h => ?_)
        refine j_iast C 2 rfl b8 dX10_tell_41 (ws' := fun g9 => [(h_t, .inr (8, [.int t_length, .ref h_t_text, .int t_at, .ref h_t_told, .ref h_t_touches, .ref h_t_has, .ref h_t_old, .ref h_t_beside, .int t_stones, .ref h_t_slot, .int t_kept, .int t_done, .int t_rows, .ref h_t_row, .ref h_t_free, .int t_frees, .ref h_t_worth, .ref h_t_fore, .ref h_t_back, .int t_fewest, .ref h_t_got])), (h_t_told, jI D 8 t_told_), (h_t_row, jI D 18 g9)]) (fun _ => rfl) h (fun g9 h => ?_)
        refine j_aload_n C dX10_tell_42 rfl 0 rfl ?_
        refine j_get C ibX10 (ci := 8) 0 rfl rfl 13 (by decide) bfX10_33 (v := .ref h_t_row) rfl dX10_tell_43 ?_
        refine j_iconst C dX10_tell_46 (v := (2 : Int32)) (by decide) ?_
        refine j_aload_n C dX10_tell_47 rfl 0 rfl ?_
        refine j_get C ibX10 (ci := 8) 0 rfl rfl 12 (by decide) bfX10_94 (v := .int t_rows) rfl dX10_tell_48 ?_
        refine j_imul C dX10_tell_51 ?_
        refine j_iconst C dX10_tell_52 (v := (1 : Int32)) (by decide) ?_
        refine j_iadd C dX10_tell_53 ?_
        refine j_iload_n C dX10_tell_54 rfl 2 rfl ?_
        refine jl_inb h (fun b10 h => ?_)
        refine j_iast C 2 rfl b10 dX10_tell_55 (ws' := fun g11 => [(h_t, .inr (8, [.int t_length, .ref h_t_text, .int t_at, .ref h_t_told, .ref h_t_touches, .ref h_t_has, .ref h_t_old, .ref h_t_beside, .int t_stones, .ref h_t_slot, .int t_kept, .int t_done, .int t_rows, .ref h_t_row, .ref h_t_free, .int t_frees, .ref h_t_worth, .ref h_t_fore, .ref h_t_back, .int t_fewest, .ref h_t_got])), (h_t_told, jI D 8 t_told_), (h_t_row, jI D 18 g11)]) (fun _ => rfl) h (fun g11 h => ?_)
        refine j_aload_n C dX10_tell_56 rfl 0 rfl ?_
        refine j_dup C dX10_tell_57 rfl ?_
        refine j_get C ibX10 (ci := 8) 0 rfl rfl 12 (by decide) bfX10_94 (v := .int t_rows) rfl dX10_tell_58 ?_
        refine j_iconst C dX10_tell_61 (v := (1 : Int32)) (by decide) ?_
        refine j_iadd C dX10_tell_62 ?_
        refine j_nmi h (fun w12 h => ?_)
        refine j_put C ibX10 tyX10 tyX10_ok nmX10 (ci := 8) 0 rfl rfl 12 (by decide) bfX10_94 rfl rfl rfl (Nat.le_of_ble_eq_true rfl) dX10_tell_63 (ws' := [(h_t, .inr (8, [.int t_length, .ref h_t_text, .int t_at, .ref h_t_told, .ref h_t_touches, .ref h_t_has, .ref h_t_old, .ref h_t_beside, .int t_stones, .ref h_t_slot, .int t_kept, .int t_done, .int w12, .ref h_t_row, .ref h_t_free, .int t_frees, .ref h_t_worth, .ref h_t_fore, .ref h_t_back, .int t_fewest, .ref h_t_got])), (h_t_told, jI D 8 t_told_), (h_t_row, jI D 18 g11)]) rfl ?_
        refine j_aload_n C dX10_tell_66 rfl 0 rfl ?_
        refine j_get C ibX10 (ci := 8) 0 rfl rfl 12 (by decide) bfX10_94 (v := .int w12) rfl dX10_tell_67 ?_
        exact j_iretR C (r := r) (rtf := fun r => (some (.int r.1))) (wff := fun r => (oX10_tell D h_t h_t_text h_t_told h_t_touches h_t_has h_t_old h_t_beside h_t_slot h_t_row h_t_free h_t_worth h_t_fore h_t_back h_t_got t_length t_at t_stones t_kept t_done t_frees t_fewest t_told_ r)) E h rfl rfl dX10_tell_70
theorem dX10_noRow_0 : decode cX10_noRow 0 = .ok (.aload_n 0, 1) := by decide +kernel
theorem dX10_noRow_1 : decode cX10_noRow 1 = .ok (.getfield 94, 3) := by decide +kernel
theorem dX10_noRow_4 : decode cX10_noRow 4 = .ok (.istore_n 1, 1) := by decide +kernel
theorem dX10_noRow_5 : decode cX10_noRow 5 = .ok (.aload_n 0, 1) := by decide +kernel
theorem dX10_noRow_6 : decode cX10_noRow 6 = .ok (.iconst 0, 1) := by decide +kernel
theorem dX10_noRow_7 : decode cX10_noRow 7 = .ok (.putfield 94, 3) := by decide +kernel
theorem dX10_noRow_10 : decode cX10_noRow 10 = .ok (.iload_n 1, 1) := by decide +kernel
theorem dX10_noRow_11 : decode cX10_noRow 11 = .ok (.ireturn, 1) := by decide +kernel
def fX10_noRow (t_rows : Int32) : Option (Int32 × Int32) :=
(some (t_rows, (0 : Int32)))
def oX10_noRow (D : jv_D) (h_t : Nat) (h_t_text : Nat) (h_t_told : Nat) (h_t_touches : Nat) (h_t_has : Nat) (h_t_old : Nat) (h_t_beside : Nat) (h_t_slot : Nat) (h_t_row : Nat) (h_t_free : Nat) (h_t_worth : Nat) (h_t_fore : Nat) (h_t_back : Nat) (h_t_got : Nat) (t_length : Int32) (t_at : Int32) (t_stones : Int32) (t_kept : Int32) (t_done : Int32) (t_frees : Int32) (t_fewest : Int32) (r : Int32 × Int32) : va_W := [(h_t, .inr (8, [.int t_length, .ref h_t_text, .int t_at, .ref h_t_told, .ref h_t_touches, .ref h_t_has, .ref h_t_old, .ref h_t_beside, .int t_stones, .ref h_t_slot, .int t_kept, .int t_done, .int r.2, .ref h_t_row, .ref h_t_free, .int t_frees, .ref h_t_worth, .ref h_t_fore, .ref h_t_back, .int t_fewest, .ref h_t_got]))]
set_option maxHeartbeats 40000000 in
set_option maxRecDepth 100000 in
theorem mX10_noRow (l : Launch) (D : jv_D) (h_t : Nat) (h_t_text : Nat) (h_t_told : Nat) (h_t_touches : Nat) (h_t_has : Nat) (h_t_old : Nat) (h_t_beside : Nat) (h_t_slot : Nat) (h_t_row : Nat) (h_t_free : Nat) (h_t_worth : Nat) (h_t_fore : Nat) (h_t_back : Nat) (h_t_got : Nat) (t_length : Int32) (t_at : Int32) (t_stones : Int32) (t_kept : Int32) (t_done : Int32) (t_rows : Int32) (t_frees : Int32) (t_fewest : Int32) (r : Int32 × Int32) (h : fX10_noRow t_rows = some r) : MM l yX10_noRow (jW yX10_noRow cX10_noRow 2 (some .int)) ({ frames := 0, cells := 0, slots := 0, locals := 0 }) D [.ref h_t] [(h_t, .inr (8, [.int t_length, .ref h_t_text, .int t_at, .ref h_t_told, .ref h_t_touches, .ref h_t_has, .ref h_t_old, .ref h_t_beside, .int t_stones, .ref h_t_slot, .int t_kept, .int t_done, .int t_rows, .ref h_t_row, .ref h_t_free, .int t_frees, .ref h_t_worth, .ref h_t_fore, .ref h_t_back, .int t_fewest, .ref h_t_got]))] (some (.int r.1)) (oX10_noRow D h_t h_t_text h_t_told h_t_touches h_t_has h_t_old h_t_beside h_t_slot h_t_row h_t_free h_t_worth h_t_fore h_t_back h_t_got t_length t_at t_stones t_kept t_done t_frees t_fewest r) := by
  refine mn_of hpX10_noRow (Nat.le_of_ble_eq_true rfl) ?_
  intro X hXl C E0 hN
  subst hXl
  replace C : JC D X 2 RX10 cX10_noRow ({ frames := 0, cells := 0, slots := 0, locals := 0 }) := C
  have E : JE D X 0 0 (some .int) (fun _ : Unit => (some (.int r.1))) (fun _ : Unit => (oX10_noRow D h_t h_t_text h_t_told h_t_touches h_t_has h_t_old h_t_beside h_t_slot h_t_row h_t_free h_t_worth h_t_fore h_t_back h_t_got t_length t_at t_stones t_kept t_done t_frees t_fewest r)) := E0 0 0 rfl rfl
  clear E0 hN
  show JJ D X 2 0 0 0 [(0, .ref h_t)] [] [(h_t, .inr (8, [.int t_length, .ref h_t_text, .int t_at, .ref h_t_told, .ref h_t_touches, .ref h_t_has, .ref h_t_old, .ref h_t_beside, .int t_stones, .ref h_t_slot, .int t_kept, .int t_done, .int t_rows, .ref h_t_row, .ref h_t_free, .int t_frees, .ref h_t_worth, .ref h_t_fore, .ref h_t_back, .int t_fewest, .ref h_t_got]))]
  unfold fX10_noRow at h
  refine j_aload_n C dX10_noRow_0 rfl 0 rfl ?_
  refine j_get C ibX10 (ci := 8) 0 rfl rfl 12 (by decide) bfX10_94 (v := .int t_rows) rfl dX10_noRow_1 ?_
  refine j_istore_nC C dX10_noRow_4 rfl (lv' := [(1, .int t_rows), (0, .ref h_t)]) (by decide) rfl ?_
  refine j_aload_n C dX10_noRow_5 rfl 1 rfl ?_
  refine j_iconst C dX10_noRow_6 (v := (0 : Int32)) (by decide) ?_
  refine j_put C ibX10 tyX10 tyX10_ok nmX10 (ci := 8) 0 rfl rfl 12 (by decide) bfX10_94 rfl rfl rfl (Nat.le_of_ble_eq_true rfl) dX10_noRow_7 (ws' := [(h_t, .inr (8, [.int t_length, .ref h_t_text, .int t_at, .ref h_t_told, .ref h_t_touches, .ref h_t_has, .ref h_t_old, .ref h_t_beside, .int t_stones, .ref h_t_slot, .int t_kept, .int t_done, .int ((0 : Int32)), .ref h_t_row, .ref h_t_free, .int t_frees, .ref h_t_worth, .ref h_t_fore, .ref h_t_back, .int t_fewest, .ref h_t_got]))]) rfl ?_
  refine j_iload_n C dX10_noRow_10 rfl 0 rfl ?_
  exact j_iretR C (r := r) (rtf := fun r => (some (.int r.1))) (wff := fun r => (oX10_noRow D h_t h_t_text h_t_told h_t_touches h_t_has h_t_old h_t_beside h_t_slot h_t_row h_t_free h_t_worth h_t_fore h_t_back h_t_got t_length t_at t_stones t_kept t_done t_frees t_fewest r)) E h rfl rfl dX10_noRow_11
theorem dX10_judge_0 : decode cX10_judge 0 = .ok (.aload_n 0, 1) := by decide +kernel
theorem dX10_judge_1 : decode cX10_judge 1 = .ok (.iconst 0, 1) := by decide +kernel
theorem dX10_judge_2 : decode cX10_judge 2 = .ok (.bipush 11, 2) := by decide +kernel
theorem dX10_judge_4 : decode cX10_judge 4 = .ok (.invokevirtual 130, 3) := by decide +kernel
theorem dX10_judge_7 : decode cX10_judge 7 = .ok (.iconst 0, 1) := by decide +kernel
theorem dX10_judge_8 : decode cX10_judge 8 = .ok (.istore_n 1, 1) := by decide +kernel
theorem dX10_judge_9 : decode cX10_judge 9 = .ok (.iload_n 1, 1) := by decide +kernel
theorem dX10_judge_10 : decode cX10_judge 10 = .ok (.aload_n 0, 1) := by decide +kernel
theorem dX10_judge_11 : decode cX10_judge 11 = .ok (.getfield 94, 3) := by decide +kernel
theorem dX10_judge_14 : decode cX10_judge 14 = .ok (.if_icmp .ge 62, 3) := by decide +kernel
theorem dX10_judge_17 : decode cX10_judge 17 = .ok (.aload_n 0, 1) := by decide +kernel
theorem dX10_judge_18 : decode cX10_judge 18 = .ok (.bipush 11, 2) := by decide +kernel
theorem dX10_judge_20 : decode cX10_judge 20 = .ok (.aload_n 0, 1) := by decide +kernel
theorem dX10_judge_21 : decode cX10_judge 21 = .ok (.getfield 33, 3) := by decide +kernel
theorem dX10_judge_24 : decode cX10_judge 24 = .ok (.iconst 2, 1) := by decide +kernel
theorem dX10_judge_25 : decode cX10_judge 25 = .ok (.iload_n 1, 1) := by decide +kernel
theorem dX10_judge_26 : decode cX10_judge 26 = .ok (.imul, 1) := by decide +kernel
theorem dX10_judge_27 : decode cX10_judge 27 = .ok (.iaload, 1) := by decide +kernel
theorem dX10_judge_28 : decode cX10_judge 28 = .ok (.aload_n 0, 1) := by decide +kernel
theorem dX10_judge_29 : decode cX10_judge 29 = .ok (.getfield 33, 3) := by decide +kernel
theorem dX10_judge_32 : decode cX10_judge 32 = .ok (.iconst 2, 1) := by decide +kernel
theorem dX10_judge_33 : decode cX10_judge 33 = .ok (.iload_n 1, 1) := by decide +kernel
theorem dX10_judge_34 : decode cX10_judge 34 = .ok (.imul, 1) := by decide +kernel
theorem dX10_judge_35 : decode cX10_judge 35 = .ok (.iconst 1, 1) := by decide +kernel
theorem dX10_judge_36 : decode cX10_judge 36 = .ok (.iadd, 1) := by decide +kernel
theorem dX10_judge_37 : decode cX10_judge 37 = .ok (.iaload, 1) := by decide +kernel
theorem dX10_judge_38 : decode cX10_judge 38 = .ok (.invokevirtual 127, 3) := by decide +kernel
theorem dX10_judge_41 : decode cX10_judge 41 = .ok (.ifCond .ne 5, 3) := by decide +kernel
theorem dX10_judge_44 : decode cX10_judge 44 = .ok (.iload_n 1, 1) := by decide +kernel
theorem dX10_judge_45 : decode cX10_judge 45 = .ok (.ireturn, 1) := by decide +kernel
theorem dX10_judge_46 : decode cX10_judge 46 = .ok (.aload_n 0, 1) := by decide +kernel
theorem dX10_judge_47 : decode cX10_judge 47 = .ok (.bipush 11, 2) := by decide +kernel
theorem dX10_judge_49 : decode cX10_judge 49 = .ok (.aload_n 0, 1) := by decide +kernel
theorem dX10_judge_50 : decode cX10_judge 50 = .ok (.getfield 33, 3) := by decide +kernel
theorem dX10_judge_53 : decode cX10_judge 53 = .ok (.iconst 2, 1) := by decide +kernel
theorem dX10_judge_54 : decode cX10_judge 54 = .ok (.iload_n 1, 1) := by decide +kernel
theorem dX10_judge_55 : decode cX10_judge 55 = .ok (.imul, 1) := by decide +kernel
theorem dX10_judge_56 : decode cX10_judge 56 = .ok (.iaload, 1) := by decide +kernel
theorem dX10_judge_57 : decode cX10_judge 57 = .ok (.aload_n 0, 1) := by decide +kernel
theorem dX10_judge_58 : decode cX10_judge 58 = .ok (.getfield 33, 3) := by decide +kernel
theorem dX10_judge_61 : decode cX10_judge 61 = .ok (.iconst 2, 1) := by decide +kernel
theorem dX10_judge_62 : decode cX10_judge 62 = .ok (.iload_n 1, 1) := by decide +kernel
theorem dX10_judge_63 : decode cX10_judge 63 = .ok (.imul, 1) := by decide +kernel
theorem dX10_judge_64 : decode cX10_judge 64 = .ok (.iconst 1, 1) := by decide +kernel
theorem dX10_judge_65 : decode cX10_judge 65 = .ok (.iadd, 1) := by decide +kernel
theorem dX10_judge_66 : decode cX10_judge 66 = .ok (.iaload, 1) := by decide +kernel
theorem dX10_judge_67 : decode cX10_judge 67 = .ok (.invokevirtual 137, 3) := by decide +kernel
theorem dX10_judge_70 : decode cX10_judge 70 = .ok (.iinc 1 1, 3) := by decide +kernel
theorem dX10_judge_73 : decode cX10_judge 73 = .ok (.goto (-64), 3) := by decide +kernel
theorem dX10_judge_76 : decode cX10_judge 76 = .ok (.bipush (-4), 2) := by decide +kernel
theorem dX10_judge_78 : decode cX10_judge 78 = .ok (.ireturn, 1) := by decide +kernel
def bX10_judge_9 (F : Nat) (t_stones : Int32) (t_rows : Int32) (t_touches_ : Nat → Int32) (t_has_ : Nat → Int32) (t_beside_ : Nat → Int32) (t_row_ : Nat → Int32)  (k9 : Int32 → (Nat → Int32) → Option (Int32 × (Nat → Int32))) (x3 : Int32) (m_t_slot__4 : Nat → Int32) : Option (Int32 × (Nat → Int32)) :=
(if t_rows ≤ x3 then
(some ((-4 : Int32), m_t_slot__4))
else
(if (((2 : Int32)) * x3) < 0 ∨ 18 ≤ (((2 : Int32)) * x3).toNatClampNeg then none else
(if ((((2 : Int32)) * x3) + ((1 : Int32))) < 0 ∨ 18 ≤ ((((2 : Int32)) * x3) + ((1 : Int32))).toNatClampNeg then none else
((fX10_isMay F t_stones t_touches_ t_has_ t_beside_ m_t_slot__4 ((11 : Int32)) (t_row_ (((2 : Int32)) * x3).toNatClampNeg) (t_row_ ((((2 : Int32)) * x3) + ((1 : Int32))).toNatClampNeg)).bind fun r8 =>
(if r8 = 0 then
(some (x3, m_t_slot__4))
else
(if (((2 : Int32)) * x3) < 0 ∨ 18 ≤ (((2 : Int32)) * x3).toNatClampNeg then none else
(if ((((2 : Int32)) * x3) + ((1 : Int32))) < 0 ∨ 18 ≤ ((((2 : Int32)) * x3) + ((1 : Int32))).toNatClampNeg then none else
((fX10_paints m_t_slot__4 ((11 : Int32)) (t_row_ (((2 : Int32)) * x3).toNatClampNeg) (t_row_ ((((2 : Int32)) * x3) + ((1 : Int32))).toNatClampNeg)).bind fun r13 =>
(jl_let (x3 + Int32.ofInt (1)) fun v15 =>
(k9 v15 r13))))))))))
def lX10_judge_9 (F : Nat) (t_stones : Int32) (t_rows : Int32) (t_touches_ : Nat → Int32) (t_has_ : Nat → Int32) (t_beside_ : Nat → Int32) (t_row_ : Nat → Int32)  (F2 : Nat) (x3 : Int32) (m_t_slot__4 : Nat → Int32) : Option (Int32 × (Nat → Int32)) := jl_loop2 (bX10_judge_9 F t_stones t_rows t_touches_ t_has_ t_beside_ t_row_ ) F2 x3 m_t_slot__4
def fX10_judge (F : Nat) (t_stones : Int32) (t_rows : Int32) (t_touches_ : Nat → Int32) (t_has_ : Nat → Int32) (t_beside_ : Nat → Int32) (t_slot_ : Nat → Int32) (t_row_ : Nat → Int32) : Option (Int32 × (Nat → Int32)) :=
((fX10_copies F t_slot_ ((0 : Int32)) ((11 : Int32))).bind fun r1 =>
(lX10_judge_9 F t_stones t_rows t_touches_ t_has_ t_beside_ t_row_ F ((0 : Int32)) r1))
def oX10_judge (D : jv_D) (h_t : Nat) (h_t_text : Nat) (h_t_told : Nat) (h_t_touches : Nat) (h_t_has : Nat) (h_t_old : Nat) (h_t_beside : Nat) (h_t_slot : Nat) (h_t_row : Nat) (h_t_free : Nat) (h_t_worth : Nat) (h_t_fore : Nat) (h_t_back : Nat) (h_t_got : Nat) (t_length : Int32) (t_at : Int32) (t_stones : Int32) (t_kept : Int32) (t_done : Int32) (t_rows : Int32) (t_frees : Int32) (t_fewest : Int32) (t_touches_ : Nat → Int32) (t_has_ : Nat → Int32) (t_beside_ : Nat → Int32) (t_row_ : Nat → Int32) (r : Int32 × (Nat → Int32)) : va_W := [(h_t, .inr (8, [.int t_length, .ref h_t_text, .int t_at, .ref h_t_told, .ref h_t_touches, .ref h_t_has, .ref h_t_old, .ref h_t_beside, .int t_stones, .ref h_t_slot, .int t_kept, .int t_done, .int t_rows, .ref h_t_row, .ref h_t_free, .int t_frees, .ref h_t_worth, .ref h_t_fore, .ref h_t_back, .int t_fewest, .ref h_t_got])), (h_t_touches, jZ D 32 t_touches_), (h_t_has, jI D 4 t_has_), (h_t_beside, jI D 9 t_beside_), (h_t_slot, jI D 240 r.2), (h_t_row, jI D 18 t_row_)]
set_option maxHeartbeats 40000000 in
set_option maxRecDepth 100000 in
theorem mX10_judge (l : Launch) (D : jv_D) (F : Nat) (h_t : Nat) (h_t_text : Nat) (h_t_told : Nat) (h_t_touches : Nat) (h_t_has : Nat) (h_t_old : Nat) (h_t_beside : Nat) (h_t_slot : Nat) (h_t_row : Nat) (h_t_free : Nat) (h_t_worth : Nat) (h_t_fore : Nat) (h_t_back : Nat) (h_t_got : Nat) (t_length : Int32) (t_at : Int32) (t_stones : Int32) (t_kept : Int32) (t_done : Int32) (t_rows : Int32) (t_frees : Int32) (t_fewest : Int32) (t_touches_ : Nat → Int32) (t_has_ : Nat → Int32) (t_beside_ : Nat → Int32) (t_slot_ : Nat → Int32) (t_row_ : Nat → Int32) (r : Int32 × (Nat → Int32)) (h : fX10_judge F t_stones t_rows t_touches_ t_has_ t_beside_ t_slot_ t_row_ = some r) : MM l yX10_judge (jW yX10_judge cX10_judge 2 (some .int)) ({ frames := 2, cells := 0, slots := 0, locals := 49 }) D [.ref h_t] [(h_t, .inr (8, [.int t_length, .ref h_t_text, .int t_at, .ref h_t_told, .ref h_t_touches, .ref h_t_has, .ref h_t_old, .ref h_t_beside, .int t_stones, .ref h_t_slot, .int t_kept, .int t_done, .int t_rows, .ref h_t_row, .ref h_t_free, .int t_frees, .ref h_t_worth, .ref h_t_fore, .ref h_t_back, .int t_fewest, .ref h_t_got])), (h_t_touches, jZ D 32 t_touches_), (h_t_has, jI D 4 t_has_), (h_t_beside, jI D 9 t_beside_), (h_t_slot, jI D 240 t_slot_), (h_t_row, jI D 18 t_row_)] (some (.int r.1)) (oX10_judge D h_t h_t_text h_t_told h_t_touches h_t_has h_t_old h_t_beside h_t_slot h_t_row h_t_free h_t_worth h_t_fore h_t_back h_t_got t_length t_at t_stones t_kept t_done t_rows t_frees t_fewest t_touches_ t_has_ t_beside_ t_row_ r) := by
  refine mn_of hpX10_judge (Nat.le_of_ble_eq_true rfl) ?_
  intro X hXl C E0 hN
  subst hXl
  replace C : JC D X 2 RX10 cX10_judge ({ frames := 2, cells := 0, slots := 0, locals := 49 }) := C
  have E : JE D X 0 0 (some .int) (fun _ : Unit => (some (.int r.1))) (fun _ : Unit => (oX10_judge D h_t h_t_text h_t_told h_t_touches h_t_has h_t_old h_t_beside h_t_slot h_t_row h_t_free h_t_worth h_t_fore h_t_back h_t_got t_length t_at t_stones t_kept t_done t_rows t_frees t_fewest t_touches_ t_has_ t_beside_ t_row_ r)) := E0 0 0 rfl rfl
  clear E0 hN
  show JJ D X 2 0 0 0 [(0, .ref h_t)] [] [(h_t, .inr (8, [.int t_length, .ref h_t_text, .int t_at, .ref h_t_told, .ref h_t_touches, .ref h_t_has, .ref h_t_old, .ref h_t_beside, .int t_stones, .ref h_t_slot, .int t_kept, .int t_done, .int t_rows, .ref h_t_row, .ref h_t_free, .int t_frees, .ref h_t_worth, .ref h_t_fore, .ref h_t_back, .int t_fewest, .ref h_t_got])), (h_t_touches, jZ D 32 t_touches_), (h_t_has, jI D 4 t_has_), (h_t_beside, jI D 9 t_beside_), (h_t_slot, jI D 240 t_slot_), (h_t_row, jI D 18 t_row_)]
  unfold fX10_judge at h
  have L9 : ∀ (x3 : Int32) (m_t_slot__4 : Nat → Int32), lX10_judge_9 F t_stones t_rows t_touches_ t_has_ t_beside_ t_row_  F x3 m_t_slot__4 = some r → JJ D X 2 0 0 9 [(0, .ref h_t), (1, .int x3)] [] [(h_t, .inr (8, [.int t_length, .ref h_t_text, .int t_at, .ref h_t_told, .ref h_t_touches, .ref h_t_has, .ref h_t_old, .ref h_t_beside, .int t_stones, .ref h_t_slot, .int t_kept, .int t_done, .int t_rows, .ref h_t_row, .ref h_t_free, .int t_frees, .ref h_t_worth, .ref h_t_fore, .ref h_t_back, .int t_fewest, .ref h_t_got])), (h_t_touches, jZ D 32 t_touches_), (h_t_has, jI D 4 t_has_), (h_t_beside, jI D 9 t_beside_), (h_t_slot, jI D 240 m_t_slot__4), (h_t_row, jI D 18 t_row_)] := by
    intro x3 m_t_slot__4 h
    refine jl_ind2 (fun x3 m_t_slot__4 => JJ D X 2 0 0 9 [(0, .ref h_t), (1, .int x3)] [] [(h_t, .inr (8, [.int t_length, .ref h_t_text, .int t_at, .ref h_t_told, .ref h_t_touches, .ref h_t_has, .ref h_t_old, .ref h_t_beside, .int t_stones, .ref h_t_slot, .int t_kept, .int t_done, .int t_rows, .ref h_t_row, .ref h_t_free, .int t_frees, .ref h_t_worth, .ref h_t_fore, .ref h_t_back, .int t_fewest, .ref h_t_got])), (h_t_touches, jZ D 32 t_touches_), (h_t_has, jI D 4 t_has_), (h_t_beside, jI D 9 t_beside_), (h_t_slot, jI D 240 m_t_slot__4), (h_t_row, jI D 18 t_row_)]) ?_ F x3 m_t_slot__4 h
    clear h x3 m_t_slot__4
    intro k9 i9 x3 m_t_slot__4 h
    replace i9 : ∀ (x3 : Int32) (m_t_slot__4 : Nat → Int32), k9 x3 m_t_slot__4 = some r → JJ D X 2 0 0 9 [(0, .ref h_t), (1, .int x3)] [] [(h_t, .inr (8, [.int t_length, .ref h_t_text, .int t_at, .ref h_t_told, .ref h_t_touches, .ref h_t_has, .ref h_t_old, .ref h_t_beside, .int t_stones, .ref h_t_slot, .int t_kept, .int t_done, .int t_rows, .ref h_t_row, .ref h_t_free, .int t_frees, .ref h_t_worth, .ref h_t_fore, .ref h_t_back, .int t_fewest, .ref h_t_got])), (h_t_touches, jZ D 32 t_touches_), (h_t_has, jI D 4 t_has_), (h_t_beside, jI D 9 t_beside_), (h_t_slot, jI D 240 m_t_slot__4), (h_t_row, jI D 18 t_row_)] := i9
    show JJ D X 2 0 0 9 [(0, .ref h_t), (1, .int x3)] [] [(h_t, .inr (8, [.int t_length, .ref h_t_text, .int t_at, .ref h_t_told, .ref h_t_touches, .ref h_t_has, .ref h_t_old, .ref h_t_beside, .int t_stones, .ref h_t_slot, .int t_kept, .int t_done, .int t_rows, .ref h_t_row, .ref h_t_free, .int t_frees, .ref h_t_worth, .ref h_t_fore, .ref h_t_back, .int t_fewest, .ref h_t_got])), (h_t_touches, jZ D 32 t_touches_), (h_t_has, jI D 4 t_has_), (h_t_beside, jI D 9 t_beside_), (h_t_slot, jI D 240 m_t_slot__4), (h_t_row, jI D 18 t_row_)]
    unfold bX10_judge_9 at h
    refine j_iload_n C dX10_judge_9 rfl 1 rfl ?_
    refine j_aload_n C dX10_judge_10 rfl 0 rfl ?_
    refine j_get C ibX10 (ci := 8) 0 rfl rfl 12 (by decide) bfX10_94 (v := .int t_rows) rfl dX10_judge_11 ?_
    refine j_icmp_ge C (tgt := 76) dX10_judge_14 (by decide) h (fun c5 h => ?_) (fun c5 h => ?_)
    · refine j_bipush C dX10_judge_76 (v := (-4 : Int32)) (by decide) ?_
      exact j_iretR C (r := r) (rtf := fun r => (some (.int r.1))) (wff := fun r => (oX10_judge D h_t h_t_text h_t_told h_t_touches h_t_has h_t_old h_t_beside h_t_slot h_t_row h_t_free h_t_worth h_t_fore h_t_back h_t_got t_length t_at t_stones t_kept t_done t_rows t_frees t_fewest t_touches_ t_has_ t_beside_ t_row_ r)) E h rfl rfl dX10_judge_78
    · refine j_aload_n C dX10_judge_17 rfl 0 rfl ?_
      refine j_bipush C dX10_judge_18 (v := (11 : Int32)) (by decide) ?_
      refine j_aload_n C dX10_judge_20 rfl 0 rfl ?_
      refine j_get C ibX10 (ci := 8) 0 rfl rfl 13 (by decide) bfX10_33 (v := .ref h_t_row) rfl dX10_judge_21 ?_
      refine j_iconst C dX10_judge_24 (v := (2 : Int32)) (by decide) ?_
      refine j_iload_n C dX10_judge_25 rfl 1 rfl ?_
      refine j_imul C dX10_judge_26 ?_
      refine jl_inb h (fun b6 h => ?_)
      refine j_iald C 5 rfl b6 dX10_judge_27 ?_
      refine j_aload_n C dX10_judge_28 rfl 0 rfl ?_
      refine j_get C ibX10 (ci := 8) 0 rfl rfl 13 (by decide) bfX10_33 (v := .ref h_t_row) rfl dX10_judge_29 ?_
      refine j_iconst C dX10_judge_32 (v := (2 : Int32)) (by decide) ?_
      refine j_iload_n C dX10_judge_33 rfl 1 rfl ?_
      refine j_imul C dX10_judge_34 ?_
      refine j_iconst C dX10_judge_35 (v := (1 : Int32)) (by decide) ?_
      refine j_iadd C dX10_judge_36 ?_
      refine jl_inb h (fun b7 h => ?_)
      refine j_iald C 5 rfl b7 dX10_judge_37 ?_
      obtain ⟨r8, q9, h⟩ := jl_bind h
      refine j_cV1 C (mX10_isMay (jlaunch X) D F h_t h_t_text h_t_told h_t_touches h_t_has h_t_old h_t_beside h_t_slot h_t_row h_t_free h_t_worth h_t_fore h_t_back h_t_got t_length t_at t_stones t_kept t_done t_rows t_frees t_fewest t_touches_ t_has_ t_beside_ m_t_slot__4 ((11 : Int32)) (t_row_ (((2 : Int32)) * x3).toNatClampNeg) (t_row_ ((((2 : Int32)) * x3) + ((1 : Int32))).toNatClampNeg) r8 q9) bmX10_127 biX10_isMay bsX10_isMay bzX10 bcX10_isMay rfl hX10_isMay (rest := []) rfl (jroom_of rfl) 0 (ci := 8) rfl rfl rfl [0, 1, 2, 3, 4] [5] [1, 2, 3, 4, 5, 0] (wr := [(h_t_row, jI D 18 t_row_)]) (ws2 := [(h_t, .inr (8, [.int t_length, .ref h_t_text, .int t_at, .ref h_t_told, .ref h_t_touches, .ref h_t_has, .ref h_t_old, .ref h_t_beside, .int t_stones, .ref h_t_slot, .int t_kept, .int t_done, .int t_rows, .ref h_t_row, .ref h_t_free, .int t_frees, .ref h_t_worth, .ref h_t_fore, .ref h_t_back, .int t_fewest, .ref h_t_got])), (h_t_touches, jZ D 32 t_touches_), (h_t_has, jI D 4 t_has_), (h_t_beside, jI D 9 t_beside_), (h_t_slot, jI D 240 m_t_slot__4), (h_t_row, jI D 18 t_row_)]) rfl rfl rfl rfl rfl (Nat.le_of_ble_eq_true rfl) dX10_judge_38 ?_
      refine j_if_ne C (tgt := 46) dX10_judge_41 (by decide) h (fun c10 h => ?_) (fun c10 h => ?_)
      · refine j_iload_n C dX10_judge_44 rfl 1 rfl ?_
        exact j_iretR C (r := r) (rtf := fun r => (some (.int r.1))) (wff := fun r => (oX10_judge D h_t h_t_text h_t_told h_t_touches h_t_has h_t_old h_t_beside h_t_slot h_t_row h_t_free h_t_worth h_t_fore h_t_back h_t_got t_length t_at t_stones t_kept t_done t_rows t_frees t_fewest t_touches_ t_has_ t_beside_ t_row_ r)) E h rfl rfl dX10_judge_45
      · refine j_aload_n C dX10_judge_46 rfl 0 rfl ?_
        refine j_bipush C dX10_judge_47 (v := (11 : Int32)) (by decide) ?_
        refine j_aload_n C dX10_judge_49 rfl 0 rfl ?_
        refine j_get C ibX10 (ci := 8) 0 rfl rfl 13 (by decide) bfX10_33 (v := .ref h_t_row) rfl dX10_judge_50 ?_
        refine j_iconst C dX10_judge_53 (v := (2 : Int32)) (by decide) ?_
        refine j_iload_n C dX10_judge_54 rfl 1 rfl ?_
        refine j_imul C dX10_judge_55 ?_
        refine jl_inb h (fun b11 h => ?_)
        refine j_iald C 5 rfl b11 dX10_judge_56 ?_
        refine j_aload_n C dX10_judge_57 rfl 0 rfl ?_
        refine j_get C ibX10 (ci := 8) 0 rfl rfl 13 (by decide) bfX10_33 (v := .ref h_t_row) rfl dX10_judge_58 ?_
        refine j_iconst C dX10_judge_61 (v := (2 : Int32)) (by decide) ?_
        refine j_iload_n C dX10_judge_62 rfl 1 rfl ?_
        refine j_imul C dX10_judge_63 ?_
        refine j_iconst C dX10_judge_64 (v := (1 : Int32)) (by decide) ?_
        refine j_iadd C dX10_judge_65 ?_
        refine jl_inb h (fun b12 h => ?_)
        refine j_iald C 5 rfl b12 dX10_judge_66 ?_
        obtain ⟨r13, q14, h⟩ := jl_bind h
        refine j_cV0 C (mX10_paints (jlaunch X) D h_t h_t_text h_t_told h_t_touches h_t_has h_t_old h_t_beside h_t_slot h_t_row h_t_free h_t_worth h_t_fore h_t_back h_t_got t_length t_at t_stones t_kept t_done t_rows t_frees t_fewest m_t_slot__4 ((11 : Int32)) (t_row_ (((2 : Int32)) * x3).toNatClampNeg) (t_row_ ((((2 : Int32)) * x3) + ((1 : Int32))).toNatClampNeg) r13 q14) bmX10_137 biX10_paints bsX10_paints bzX10 bcX10_paints rfl hX10_paints (rest := []) rfl (jroom_of rfl) 0 (ci := 8) rfl rfl rfl [0, 4] [1, 2, 3, 5] [4, 0, 1, 2, 5, 3] (wr := [(h_t_touches, jZ D 32 t_touches_), (h_t_has, jI D 4 t_has_), (h_t_beside, jI D 9 t_beside_), (h_t_row, jI D 18 t_row_)]) (ws2 := [(h_t, .inr (8, [.int t_length, .ref h_t_text, .int t_at, .ref h_t_told, .ref h_t_touches, .ref h_t_has, .ref h_t_old, .ref h_t_beside, .int t_stones, .ref h_t_slot, .int t_kept, .int t_done, .int t_rows, .ref h_t_row, .ref h_t_free, .int t_frees, .ref h_t_worth, .ref h_t_fore, .ref h_t_back, .int t_fewest, .ref h_t_got])), (h_t_touches, jZ D 32 t_touches_), (h_t_has, jI D 4 t_has_), (h_t_beside, jI D 9 t_beside_), (h_t_slot, jI D 240 r13), (h_t_row, jI D 18 t_row_)]) rfl rfl rfl rfl rfl (Nat.le_of_ble_eq_true rfl) dX10_judge_67 ?_
        refine j_iinc C dX10_judge_70 1 rfl (lv' := fun v15 => [(1, .int v15), (0, .ref h_t)]) (by decide) (fun _ => rfl) h (fun v15 h => ?_)
        refine j_goto C dX10_judge_73 (tgt := 9) (by decide) ?_
        refine j_sub (lv' := [(0, .ref h_t), (1, .int v15)]) [1, 0] rfl ?_
        exact i9 v15 r13 h
  refine j_aload_n C dX10_judge_0 rfl 0 rfl ?_
  refine j_iconst C dX10_judge_1 (v := (0 : Int32)) (by decide) ?_
  refine j_bipush C dX10_judge_2 (v := (11 : Int32)) (by decide) ?_
  obtain ⟨r1, q2, h⟩ := jl_bind h
  refine j_cV0 C (mX10_copies (jlaunch X) D F h_t h_t_text h_t_told h_t_touches h_t_has h_t_old h_t_beside h_t_slot h_t_row h_t_free h_t_worth h_t_fore h_t_back h_t_got t_length t_at t_stones t_kept t_done t_rows t_frees t_fewest t_slot_ ((0 : Int32)) ((11 : Int32)) r1 q2) bmX10_130 biX10_copies bsX10_copies bzX10 bcX10_copies rfl hX10_copies (rest := []) rfl (jroom_of rfl) 0 (ci := 8) rfl rfl rfl [0, 4] [1, 2, 3, 5] [4, 0, 1, 2, 5, 3] (wr := [(h_t_touches, jZ D 32 t_touches_), (h_t_has, jI D 4 t_has_), (h_t_beside, jI D 9 t_beside_), (h_t_row, jI D 18 t_row_)]) (ws2 := [(h_t, .inr (8, [.int t_length, .ref h_t_text, .int t_at, .ref h_t_told, .ref h_t_touches, .ref h_t_has, .ref h_t_old, .ref h_t_beside, .int t_stones, .ref h_t_slot, .int t_kept, .int t_done, .int t_rows, .ref h_t_row, .ref h_t_free, .int t_frees, .ref h_t_worth, .ref h_t_fore, .ref h_t_back, .int t_fewest, .ref h_t_got])), (h_t_touches, jZ D 32 t_touches_), (h_t_has, jI D 4 t_has_), (h_t_beside, jI D 9 t_beside_), (h_t_slot, jI D 240 r1), (h_t_row, jI D 18 t_row_)]) rfl rfl rfl rfl rfl (Nat.le_of_ble_eq_true rfl) dX10_judge_4 ?_
  refine j_iconst C dX10_judge_7 (v := (0 : Int32)) (by decide) ?_
  refine j_istore_nC C dX10_judge_8 rfl (lv' := [(1, .int ((0 : Int32))), (0, .ref h_t)]) (by decide) rfl ?_
  refine j_sub (lv' := [(0, .ref h_t), (1, .int ((0 : Int32)))]) [1, 0] rfl ?_
  exact L9 ((0 : Int32)) r1 h
theorem dX10_freed_0 : decode cX10_freed 0 = .ok (.aload_n 0, 1) := by decide +kernel
theorem dX10_freed_1 : decode cX10_freed 1 = .ok (.iconst 0, 1) := by decide +kernel
theorem dX10_freed_2 : decode cX10_freed 2 = .ok (.putfield 147, 3) := by decide +kernel
theorem dX10_freed_5 : decode cX10_freed 5 = .ok (.iconst 0, 1) := by decide +kernel
theorem dX10_freed_6 : decode cX10_freed 6 = .ok (.istore_n 1, 1) := by decide +kernel
theorem dX10_freed_7 : decode cX10_freed 7 = .ok (.iload_n 1, 1) := by decide +kernel
theorem dX10_freed_8 : decode cX10_freed 8 = .ok (.aload_n 0, 1) := by decide +kernel
theorem dX10_freed_9 : decode cX10_freed 9 = .ok (.getfield 91, 3) := by decide +kernel
theorem dX10_freed_12 : decode cX10_freed 12 = .ok (.if_icmp .ge 42, 3) := by decide +kernel
theorem dX10_freed_15 : decode cX10_freed 15 = .ok (.aload_n 0, 1) := by decide +kernel
theorem dX10_freed_16 : decode cX10_freed 16 = .ok (.getfield 30, 3) := by decide +kernel
theorem dX10_freed_19 : decode cX10_freed 19 = .ok (.sipush 220, 3) := by decide +kernel
theorem dX10_freed_22 : decode cX10_freed 22 = .ok (.iload_n 1, 1) := by decide +kernel
theorem dX10_freed_23 : decode cX10_freed 23 = .ok (.iadd, 1) := by decide +kernel
theorem dX10_freed_24 : decode cX10_freed 24 = .ok (.iaload, 1) := by decide +kernel
theorem dX10_freed_25 : decode cX10_freed 25 = .ok (.ifCond .ne 23, 3) := by decide +kernel
theorem dX10_freed_28 : decode cX10_freed 28 = .ok (.aload_n 0, 1) := by decide +kernel
theorem dX10_freed_29 : decode cX10_freed 29 = .ok (.getfield 36, 3) := by decide +kernel
theorem dX10_freed_32 : decode cX10_freed 32 = .ok (.aload_n 0, 1) := by decide +kernel
theorem dX10_freed_33 : decode cX10_freed 33 = .ok (.getfield 147, 3) := by decide +kernel
theorem dX10_freed_36 : decode cX10_freed 36 = .ok (.iload_n 1, 1) := by decide +kernel
theorem dX10_freed_37 : decode cX10_freed 37 = .ok (.iastore, 1) := by decide +kernel
theorem dX10_freed_38 : decode cX10_freed 38 = .ok (.aload_n 0, 1) := by decide +kernel
theorem dX10_freed_39 : decode cX10_freed 39 = .ok (.dup, 1) := by decide +kernel
theorem dX10_freed_40 : decode cX10_freed 40 = .ok (.getfield 147, 3) := by decide +kernel
theorem dX10_freed_43 : decode cX10_freed 43 = .ok (.iconst 1, 1) := by decide +kernel
theorem dX10_freed_44 : decode cX10_freed 44 = .ok (.iadd, 1) := by decide +kernel
theorem dX10_freed_45 : decode cX10_freed 45 = .ok (.putfield 147, 3) := by decide +kernel
theorem dX10_freed_48 : decode cX10_freed 48 = .ok (.iinc 1 1, 3) := by decide +kernel
theorem dX10_freed_51 : decode cX10_freed 51 = .ok (.goto (-44), 3) := by decide +kernel
theorem dX10_freed_54 : decode cX10_freed 54 = .ok (.return_, 1) := by decide +kernel
def bX10_freed_7 (F : Nat) (t_stones : Int32) (t_slot_ : Nat → Int32)  (k7 : Int32 → Int32 → (Nat → Int32) → Option (Int32 × (Nat → Int32))) (x1 : Int32) (m_t_frees_2 : Int32) (m_t_free__3 : Nat → Int32) : Option (Int32 × (Nat → Int32)) :=
(if t_stones ≤ x1 then
(some (m_t_frees_2, m_t_free__3))
else
(if (((220 : Int32)) + x1) < 0 ∨ 240 ≤ (((220 : Int32)) + x1).toNatClampNeg then none else
(if (t_slot_ (((220 : Int32)) + x1).toNatClampNeg) = 0 then
(if m_t_frees_2 < 0 ∨ 9 ≤ m_t_frees_2.toNatClampNeg then none else
(jl_let (upd m_t_free__3 m_t_frees_2.toNatClampNeg x1) fun g8 =>
(jl_let (m_t_frees_2 + ((1 : Int32))) fun w9 =>
(jl_let (x1 + Int32.ofInt (1)) fun v10 =>
(k7 v10 w9 g8)))))
else
(jl_let (x1 + Int32.ofInt (1)) fun v11 =>
(k7 v11 m_t_frees_2 m_t_free__3)))))
def lX10_freed_7 (F : Nat) (t_stones : Int32) (t_slot_ : Nat → Int32)  (F2 : Nat) (x1 : Int32) (m_t_frees_2 : Int32) (m_t_free__3 : Nat → Int32) : Option (Int32 × (Nat → Int32)) := jl_loop3 (bX10_freed_7 F t_stones t_slot_ ) F2 x1 m_t_frees_2 m_t_free__3
def fX10_freed (F : Nat) (t_stones : Int32) (t_frees : Int32) (t_slot_ : Nat → Int32) (t_free_ : Nat → Int32) : Option (Int32 × (Nat → Int32)) :=
(lX10_freed_7 F t_stones t_slot_ F ((0 : Int32)) ((0 : Int32)) t_free_)
def oX10_freed (D : jv_D) (h_t : Nat) (h_t_text : Nat) (h_t_told : Nat) (h_t_touches : Nat) (h_t_has : Nat) (h_t_old : Nat) (h_t_beside : Nat) (h_t_slot : Nat) (h_t_row : Nat) (h_t_free : Nat) (h_t_worth : Nat) (h_t_fore : Nat) (h_t_back : Nat) (h_t_got : Nat) (t_length : Int32) (t_at : Int32) (t_stones : Int32) (t_kept : Int32) (t_done : Int32) (t_rows : Int32) (t_fewest : Int32) (t_slot_ : Nat → Int32) (r : Int32 × (Nat → Int32)) : va_W := [(h_t, .inr (8, [.int t_length, .ref h_t_text, .int t_at, .ref h_t_told, .ref h_t_touches, .ref h_t_has, .ref h_t_old, .ref h_t_beside, .int t_stones, .ref h_t_slot, .int t_kept, .int t_done, .int t_rows, .ref h_t_row, .ref h_t_free, .int r.1, .ref h_t_worth, .ref h_t_fore, .ref h_t_back, .int t_fewest, .ref h_t_got])), (h_t_slot, jI D 240 t_slot_), (h_t_free, jI D 9 r.2)]
set_option maxHeartbeats 40000000 in
set_option maxRecDepth 100000 in
theorem mX10_freed (l : Launch) (D : jv_D) (F : Nat) (h_t : Nat) (h_t_text : Nat) (h_t_told : Nat) (h_t_touches : Nat) (h_t_has : Nat) (h_t_old : Nat) (h_t_beside : Nat) (h_t_slot : Nat) (h_t_row : Nat) (h_t_free : Nat) (h_t_worth : Nat) (h_t_fore : Nat) (h_t_back : Nat) (h_t_got : Nat) (t_length : Int32) (t_at : Int32) (t_stones : Int32) (t_kept : Int32) (t_done : Int32) (t_rows : Int32) (t_frees : Int32) (t_fewest : Int32) (t_slot_ : Nat → Int32) (t_free_ : Nat → Int32) (r : Int32 × (Nat → Int32)) (h : fX10_freed F t_stones t_frees t_slot_ t_free_ = some r) : MM l yX10_freed (jW yX10_freed cX10_freed 2 none) ({ frames := 0, cells := 0, slots := 0, locals := 0 }) D [.ref h_t] [(h_t, .inr (8, [.int t_length, .ref h_t_text, .int t_at, .ref h_t_told, .ref h_t_touches, .ref h_t_has, .ref h_t_old, .ref h_t_beside, .int t_stones, .ref h_t_slot, .int t_kept, .int t_done, .int t_rows, .ref h_t_row, .ref h_t_free, .int t_frees, .ref h_t_worth, .ref h_t_fore, .ref h_t_back, .int t_fewest, .ref h_t_got])), (h_t_slot, jI D 240 t_slot_), (h_t_free, jI D 9 t_free_)] none (oX10_freed D h_t h_t_text h_t_told h_t_touches h_t_has h_t_old h_t_beside h_t_slot h_t_row h_t_free h_t_worth h_t_fore h_t_back h_t_got t_length t_at t_stones t_kept t_done t_rows t_fewest t_slot_ r) := by
  refine mn_of hpX10_freed (Nat.le_of_ble_eq_true rfl) ?_
  intro X hXl C E0 hN
  subst hXl
  replace C : JC D X 2 RX10 cX10_freed ({ frames := 0, cells := 0, slots := 0, locals := 0 }) := C
  have E : JE D X 0 0 none (fun _ : Unit => none) (fun _ : Unit => (oX10_freed D h_t h_t_text h_t_told h_t_touches h_t_has h_t_old h_t_beside h_t_slot h_t_row h_t_free h_t_worth h_t_fore h_t_back h_t_got t_length t_at t_stones t_kept t_done t_rows t_fewest t_slot_ r)) := E0 0 0 rfl rfl
  clear E0 hN
  show JJ D X 2 0 0 0 [(0, .ref h_t)] [] [(h_t, .inr (8, [.int t_length, .ref h_t_text, .int t_at, .ref h_t_told, .ref h_t_touches, .ref h_t_has, .ref h_t_old, .ref h_t_beside, .int t_stones, .ref h_t_slot, .int t_kept, .int t_done, .int t_rows, .ref h_t_row, .ref h_t_free, .int t_frees, .ref h_t_worth, .ref h_t_fore, .ref h_t_back, .int t_fewest, .ref h_t_got])), (h_t_slot, jI D 240 t_slot_), (h_t_free, jI D 9 t_free_)]
  unfold fX10_freed at h
  have L7 : ∀ (x1 : Int32) (m_t_frees_2 : Int32) (m_t_free__3 : Nat → Int32), lX10_freed_7 F t_stones t_slot_  F x1 m_t_frees_2 m_t_free__3 = some r → JJ D X 2 0 0 7 [(0, .ref h_t), (1, .int x1)] [] [(h_t, .inr (8, [.int t_length, .ref h_t_text, .int t_at, .ref h_t_told, .ref h_t_touches, .ref h_t_has, .ref h_t_old, .ref h_t_beside, .int t_stones, .ref h_t_slot, .int t_kept, .int t_done, .int t_rows, .ref h_t_row, .ref h_t_free, .int m_t_frees_2, .ref h_t_worth, .ref h_t_fore, .ref h_t_back, .int t_fewest, .ref h_t_got])), (h_t_slot, jI D 240 t_slot_), (h_t_free, jI D 9 m_t_free__3)] := by
    intro x1 m_t_frees_2 m_t_free__3 h
    refine jl_ind3 (fun x1 m_t_frees_2 m_t_free__3 => JJ D X 2 0 0 7 [(0, .ref h_t), (1, .int x1)] [] [(h_t, .inr (8, [.int t_length, .ref h_t_text, .int t_at, .ref h_t_told, .ref h_t_touches, .ref h_t_has, .ref h_t_old, .ref h_t_beside, .int t_stones, .ref h_t_slot, .int t_kept, .int t_done, .int t_rows, .ref h_t_row, .ref h_t_free, .int m_t_frees_2, .ref h_t_worth, .ref h_t_fore, .ref h_t_back, .int t_fewest, .ref h_t_got])), (h_t_slot, jI D 240 t_slot_), (h_t_free, jI D 9 m_t_free__3)]) ?_ F x1 m_t_frees_2 m_t_free__3 h
    clear h x1 m_t_frees_2 m_t_free__3
    intro k7 i7 x1 m_t_frees_2 m_t_free__3 h
    replace i7 : ∀ (x1 : Int32) (m_t_frees_2 : Int32) (m_t_free__3 : Nat → Int32), k7 x1 m_t_frees_2 m_t_free__3 = some r → JJ D X 2 0 0 7 [(0, .ref h_t), (1, .int x1)] [] [(h_t, .inr (8, [.int t_length, .ref h_t_text, .int t_at, .ref h_t_told, .ref h_t_touches, .ref h_t_has, .ref h_t_old, .ref h_t_beside, .int t_stones, .ref h_t_slot, .int t_kept, .int t_done, .int t_rows, .ref h_t_row, .ref h_t_free, .int m_t_frees_2, .ref h_t_worth, .ref h_t_fore, .ref h_t_back, .int t_fewest, .ref h_t_got])), (h_t_slot, jI D 240 t_slot_), (h_t_free, jI D 9 m_t_free__3)] := i7
    show JJ D X 2 0 0 7 [(0, .ref h_t), (1, .int x1)] [] [(h_t, .inr (8, [.int t_length, .ref h_t_text, .int t_at, .ref h_t_told, .ref h_t_touches, .ref h_t_has, .ref h_t_old, .ref h_t_beside, .int t_stones, .ref h_t_slot, .int t_kept, .int t_done, .int t_rows, .ref h_t_row, .ref h_t_free, .int m_t_frees_2, .ref h_t_worth, .ref h_t_fore, .ref h_t_back, .int t_fewest, .ref h_t_got])), (h_t_slot, jI D 240 t_slot_), (h_t_free, jI D 9 m_t_free__3)]
    unfold bX10_freed_7 at h
    refine j_iload_n C dX10_freed_7 rfl 1 rfl ?_
    refine j_aload_n C dX10_freed_8 rfl 0 rfl ?_
    refine j_get C ibX10 (ci := 8) 0 rfl rfl 8 (by decide) bfX10_91 (v := .int t_stones) rfl dX10_freed_9 ?_
    refine j_icmp_ge C (tgt := 54) dX10_freed_12 (by decide) h (fun c4 h => ?_) (fun c4 h => ?_)
    · exact j_vretR C (r := r) (rtf := fun r => none) (wff := fun r => (oX10_freed D h_t h_t_text h_t_told h_t_touches h_t_has h_t_old h_t_beside h_t_slot h_t_row h_t_free h_t_worth h_t_fore h_t_back h_t_got t_length t_at t_stones t_kept t_done t_rows t_fewest t_slot_ r)) E h rfl rfl dX10_freed_54
    · refine j_aload_n C dX10_freed_15 rfl 0 rfl ?_
      refine j_get C ibX10 (ci := 8) 0 rfl rfl 9 (by decide) bfX10_30 (v := .ref h_t_slot) rfl dX10_freed_16 ?_
      refine j_sipush C dX10_freed_19 (v := (220 : Int32)) (by decide) ?_
      refine j_iload_n C dX10_freed_22 rfl 1 rfl ?_
      refine j_iadd C dX10_freed_23 ?_
      refine jl_inb h (fun b5 h => ?_)
      refine j_iald C 1 rfl b5 dX10_freed_24 ?_
      refine j_if_ne C (tgt := 48) dX10_freed_25 (by decide) h (fun c6 h => ?_) (fun c6 h => ?_)
      · refine j_aload_n C dX10_freed_28 rfl 0 rfl ?_
        refine j_get C ibX10 (ci := 8) 0 rfl rfl 14 (by decide) bfX10_36 (v := .ref h_t_free) rfl dX10_freed_29 ?_
        refine j_aload_n C dX10_freed_32 rfl 0 rfl ?_
        refine j_get C ibX10 (ci := 8) 0 rfl rfl 15 (by decide) bfX10_147 (v := .int m_t_frees_2) rfl dX10_freed_33 ?_
        refine j_iload_n C dX10_freed_36 rfl 1 rfl ?_
        refine jl_inb h (fun b7 h => ?_)
        refine j_iast C 2 rfl b7 dX10_freed_37 (ws' := fun g8 => [(h_t, .inr (8, [.int t_length, .ref h_t_text, .int t_at, .ref h_t_told, .ref h_t_touches, .ref h_t_has, .ref h_t_old, .ref h_t_beside, .int t_stones, .ref h_t_slot, .int t_kept, .int t_done, .int t_rows, .ref h_t_row, .ref h_t_free, .int m_t_frees_2, .ref h_t_worth, .ref h_t_fore, .ref h_t_back, .int t_fewest, .ref h_t_got])), (h_t_slot, jI D 240 t_slot_), (h_t_free, jI D 9 g8)]) (fun _ => rfl) h (fun g8 h => ?_)
        refine j_aload_n C dX10_freed_38 rfl 0 rfl ?_
        refine j_dup C dX10_freed_39 rfl ?_
        refine j_get C ibX10 (ci := 8) 0 rfl rfl 15 (by decide) bfX10_147 (v := .int m_t_frees_2) rfl dX10_freed_40 ?_
        refine j_iconst C dX10_freed_43 (v := (1 : Int32)) (by decide) ?_
        refine j_iadd C dX10_freed_44 ?_
        refine j_nmi h (fun w9 h => ?_)
        refine j_put C ibX10 tyX10 tyX10_ok nmX10 (ci := 8) 0 rfl rfl 15 (by decide) bfX10_147 rfl rfl rfl (Nat.le_of_ble_eq_true rfl) dX10_freed_45 (ws' := [(h_t, .inr (8, [.int t_length, .ref h_t_text, .int t_at, .ref h_t_told, .ref h_t_touches, .ref h_t_has, .ref h_t_old, .ref h_t_beside, .int t_stones, .ref h_t_slot, .int t_kept, .int t_done, .int t_rows, .ref h_t_row, .ref h_t_free, .int w9, .ref h_t_worth, .ref h_t_fore, .ref h_t_back, .int t_fewest, .ref h_t_got])), (h_t_slot, jI D 240 t_slot_), (h_t_free, jI D 9 g8)]) rfl ?_
        refine j_iinc C dX10_freed_48 1 rfl (lv' := fun v10 => [(1, .int v10), (0, .ref h_t)]) (by decide) (fun _ => rfl) h (fun v10 h => ?_)
        refine j_goto C dX10_freed_51 (tgt := 7) (by decide) ?_
        refine j_sub (lv' := [(0, .ref h_t), (1, .int v10)]) [1, 0] rfl ?_
        exact i7 v10 w9 g8 h
      · refine j_iinc C dX10_freed_48 1 rfl (lv' := fun v11 => [(1, .int v11), (0, .ref h_t)]) (by decide) (fun _ => rfl) h (fun v11 h => ?_)
        refine j_goto C dX10_freed_51 (tgt := 7) (by decide) ?_
        refine j_sub (lv' := [(0, .ref h_t), (1, .int v11)]) [1, 0] rfl ?_
        exact i7 v11 m_t_frees_2 m_t_free__3 h
  refine j_aload_n C dX10_freed_0 rfl 0 rfl ?_
  refine j_iconst C dX10_freed_1 (v := (0 : Int32)) (by decide) ?_
  refine j_put C ibX10 tyX10 tyX10_ok nmX10 (ci := 8) 0 rfl rfl 15 (by decide) bfX10_147 rfl rfl rfl (Nat.le_of_ble_eq_true rfl) dX10_freed_2 (ws' := [(h_t, .inr (8, [.int t_length, .ref h_t_text, .int t_at, .ref h_t_told, .ref h_t_touches, .ref h_t_has, .ref h_t_old, .ref h_t_beside, .int t_stones, .ref h_t_slot, .int t_kept, .int t_done, .int t_rows, .ref h_t_row, .ref h_t_free, .int ((0 : Int32)), .ref h_t_worth, .ref h_t_fore, .ref h_t_back, .int t_fewest, .ref h_t_got])), (h_t_slot, jI D 240 t_slot_), (h_t_free, jI D 9 t_free_)]) rfl ?_
  refine j_iconst C dX10_freed_5 (v := (0 : Int32)) (by decide) ?_
  refine j_istore_nC C dX10_freed_6 rfl (lv' := [(1, .int ((0 : Int32))), (0, .ref h_t)]) (by decide) rfl ?_
  refine j_sub (lv' := [(0, .ref h_t), (1, .int ((0 : Int32)))]) [1, 0] rfl ?_
  exact L7 ((0 : Int32)) ((0 : Int32)) t_free_ h
theorem dX10_many_0 : decode cX10_many 0 = .ok (.iconst 0, 1) := by decide +kernel
theorem dX10_many_1 : decode cX10_many 1 = .ok (.istore_n 1, 1) := by decide +kernel
theorem dX10_many_2 : decode cX10_many 2 = .ok (.iconst 0, 1) := by decide +kernel
theorem dX10_many_3 : decode cX10_many 3 = .ok (.istore_n 2, 1) := by decide +kernel
theorem dX10_many_4 : decode cX10_many 4 = .ok (.iload_n 2, 1) := by decide +kernel
theorem dX10_many_5 : decode cX10_many 5 = .ok (.bipush 9, 2) := by decide +kernel
theorem dX10_many_7 : decode cX10_many 7 = .ok (.if_icmp .ge 17, 3) := by decide +kernel
theorem dX10_many_10 : decode cX10_many 10 = .ok (.iload_n 1, 1) := by decide +kernel
theorem dX10_many_11 : decode cX10_many 11 = .ok (.iload_n 0, 1) := by decide +kernel
theorem dX10_many_12 : decode cX10_many 12 = .ok (.iload_n 2, 1) := by decide +kernel
theorem dX10_many_13 : decode cX10_many 13 = .ok (.ishr, 1) := by decide +kernel
theorem dX10_many_14 : decode cX10_many 14 = .ok (.iconst 1, 1) := by decide +kernel
theorem dX10_many_15 : decode cX10_many 15 = .ok (.iand, 1) := by decide +kernel
theorem dX10_many_16 : decode cX10_many 16 = .ok (.iadd, 1) := by decide +kernel
theorem dX10_many_17 : decode cX10_many 17 = .ok (.istore_n 1, 1) := by decide +kernel
theorem dX10_many_18 : decode cX10_many 18 = .ok (.iinc 2 1, 3) := by decide +kernel
theorem dX10_many_21 : decode cX10_many 21 = .ok (.goto (-17), 3) := by decide +kernel
theorem dX10_many_24 : decode cX10_many 24 = .ok (.iload_n 1, 1) := by decide +kernel
theorem dX10_many_25 : decode cX10_many 25 = .ok (.ireturn, 1) := by decide +kernel
def bX10_many_4 (F : Nat) (p0 : Int32)  (k4 : Int32 → Int32 → Option (Int32)) (x1 : Int32) (x2 : Int32) : Option (Int32) :=
(if ((9 : Int32)) ≤ x2 then
(some (x1))
else
(jl_let (x1 + ((p0 >>> (x2 &&& 31)) &&& ((1 : Int32)))) fun v4 =>
(jl_let (x2 + Int32.ofInt (1)) fun v5 =>
(k4 v4 v5))))
def lX10_many_4 (F : Nat) (p0 : Int32)  (F2 : Nat) (x1 : Int32) (x2 : Int32) : Option (Int32) := jl_loop2 (bX10_many_4 F p0 ) F2 x1 x2
def fX10_many (F : Nat) (p0 : Int32) : Option (Int32) :=
(lX10_many_4 F p0 F ((0 : Int32)) ((0 : Int32)))
def oX10_many (D : jv_D)  (r : Int32) : va_W := []
set_option maxHeartbeats 40000000 in
set_option maxRecDepth 100000 in
theorem mX10_many (l : Launch) (D : jv_D) (F : Nat) (p0 : Int32) (r : Int32) (h : fX10_many F p0 = some r) : MM l yX10_many (jW yX10_many cX10_many 3 (some .int)) ({ frames := 0, cells := 0, slots := 0, locals := 0 }) D [.int p0] [] (some (.int r)) (oX10_many D  r) := by
  refine mn_of hpX10_many (Nat.le_of_ble_eq_true rfl) ?_
  intro X hXl C E0 hN
  subst hXl
  replace C : JC D X 3 RX10 cX10_many ({ frames := 0, cells := 0, slots := 0, locals := 0 }) := C
  have E : JE D X 0 0 (some .int) (fun _ : Unit => (some (.int r))) (fun _ : Unit => (oX10_many D  r)) := E0 0 0 rfl rfl
  clear E0 hN
  show JJ D X 3 0 0 0 [(0, .int p0)] [] []
  unfold fX10_many at h
  have L4 : ∀ (x1 : Int32) (x2 : Int32), lX10_many_4 F p0  F x1 x2 = some r → JJ D X 3 0 0 4 [(0, .int p0), (1, .int x1), (2, .int x2)] [] [] := by
    intro x1 x2 h
    refine jl_ind2 (fun x1 x2 => JJ D X 3 0 0 4 [(0, .int p0), (1, .int x1), (2, .int x2)] [] []) ?_ F x1 x2 h
    clear h x1 x2
    intro k4 i4 x1 x2 h
    replace i4 : ∀ (x1 : Int32) (x2 : Int32), k4 x1 x2 = some r → JJ D X 3 0 0 4 [(0, .int p0), (1, .int x1), (2, .int x2)] [] [] := i4
    show JJ D X 3 0 0 4 [(0, .int p0), (1, .int x1), (2, .int x2)] [] []
    unfold bX10_many_4 at h
    refine j_iload_n C dX10_many_4 rfl 2 rfl ?_
    refine j_bipush C dX10_many_5 (v := (9 : Int32)) (by decide) ?_
    refine j_icmp_ge C (tgt := 24) dX10_many_7 (by decide) h (fun c3 h => ?_) (fun c3 h => ?_)
    · refine j_iload_n C dX10_many_24 rfl 1 rfl ?_
      exact j_iretR C (r := r) (rtf := fun r => (some (.int r))) (wff := fun r => (oX10_many D  r)) E h rfl rfl dX10_many_25
    · refine j_iload_n C dX10_many_10 rfl 1 rfl ?_
      refine j_iload_n C dX10_many_11 rfl 0 rfl ?_
      refine j_iload_n C dX10_many_12 rfl 2 rfl ?_
      refine j_ishr C dX10_many_13 ?_
      refine j_iconst C dX10_many_14 (v := (1 : Int32)) (by decide) ?_
      refine j_iand C dX10_many_15 ?_
      refine j_iadd C dX10_many_16 ?_
      refine j_istore_n C dX10_many_17 rfl (lv' := fun v4 => [(1, .int v4), (0, .int p0), (2, .int x2)]) (by decide) (fun _ => rfl) h (fun v4 h => ?_)
      refine j_iinc C dX10_many_18 2 rfl (lv' := fun v5 => [(2, .int v5), (1, .int v4), (0, .int p0)]) (by decide) (fun _ => rfl) h (fun v5 h => ?_)
      refine j_goto C dX10_many_21 (tgt := 4) (by decide) ?_
      refine j_sub (lv' := [(0, .int p0), (1, .int v4), (2, .int v5)]) [2, 1, 0] rfl ?_
      exact i4 v4 v5 h
  refine j_iconst C dX10_many_0 (v := (0 : Int32)) (by decide) ?_
  refine j_istore_nC C dX10_many_1 rfl (lv' := [(1, .int ((0 : Int32))), (0, .int p0)]) (by decide) rfl ?_
  refine j_iconst C dX10_many_2 (v := (0 : Int32)) (by decide) ?_
  refine j_istore_nC C dX10_many_3 rfl (lv' := [(2, .int ((0 : Int32))), (1, .int ((0 : Int32))), (0, .int p0)]) (by decide) rfl ?_
  refine j_sub (lv' := [(0, .int p0), (1, .int ((0 : Int32))), (2, .int ((0 : Int32)))]) [2, 1, 0] rfl ?_
  exact L4 ((0 : Int32)) ((0 : Int32)) h
theorem dX10_unlikes_0 : decode cX10_unlikes 0 = .ok (.iconst 0, 1) := by decide +kernel
theorem dX10_unlikes_1 : decode cX10_unlikes 1 = .ok (.istore_n 1, 1) := by decide +kernel
theorem dX10_unlikes_2 : decode cX10_unlikes 2 = .ok (.iconst 0, 1) := by decide +kernel
theorem dX10_unlikes_3 : decode cX10_unlikes 3 = .ok (.istore_n 2, 1) := by decide +kernel
theorem dX10_unlikes_4 : decode cX10_unlikes 4 = .ok (.iload_n 2, 1) := by decide +kernel
theorem dX10_unlikes_5 : decode cX10_unlikes 5 = .ok (.aload_n 0, 1) := by decide +kernel
theorem dX10_unlikes_6 : decode cX10_unlikes 6 = .ok (.getfield 91, 3) := by decide +kernel
theorem dX10_unlikes_9 : decode cX10_unlikes 9 = .ok (.if_icmp .ge 42, 3) := by decide +kernel
theorem dX10_unlikes_12 : decode cX10_unlikes 12 = .ok (.aload_n 0, 1) := by decide +kernel
theorem dX10_unlikes_13 : decode cX10_unlikes 13 = .ok (.getfield 30, 3) := by decide +kernel
theorem dX10_unlikes_16 : decode cX10_unlikes 16 = .ok (.sipush 220, 3) := by decide +kernel
theorem dX10_unlikes_19 : decode cX10_unlikes 19 = .ok (.iload_n 2, 1) := by decide +kernel
theorem dX10_unlikes_20 : decode cX10_unlikes 20 = .ok (.iadd, 1) := by decide +kernel
theorem dX10_unlikes_21 : decode cX10_unlikes 21 = .ok (.iaload, 1) := by decide +kernel
theorem dX10_unlikes_22 : decode cX10_unlikes 22 = .ok (.istore_n 3, 1) := by decide +kernel
theorem dX10_unlikes_23 : decode cX10_unlikes 23 = .ok (.iload_n 1, 1) := by decide +kernel
theorem dX10_unlikes_24 : decode cX10_unlikes 24 = .ok (.iload_n 3, 1) := by decide +kernel
theorem dX10_unlikes_25 : decode cX10_unlikes 25 = .ok (.i2l, 1) := by decide +kernel
theorem dX10_unlikes_26 : decode cX10_unlikes 26 = .ok (.lconst 1, 1) := by decide +kernel
theorem dX10_unlikes_27 : decode cX10_unlikes 27 = .ok (.ldc2_w 89, 3) := by decide +kernel
theorem dX10_unlikes_30 : decode cX10_unlikes 30 = .ok (.invokestatic 60, 3) := by decide +kernel
theorem dX10_unlikes_33 : decode cX10_unlikes 33 = .ok (.ifCond .eq 9, 3) := by decide +kernel
theorem dX10_unlikes_36 : decode cX10_unlikes 36 = .ok (.iconst 1, 1) := by decide +kernel
theorem dX10_unlikes_37 : decode cX10_unlikes 37 = .ok (.iload_n 3, 1) := by decide +kernel
theorem dX10_unlikes_38 : decode cX10_unlikes 38 = .ok (.ishl, 1) := by decide +kernel
theorem dX10_unlikes_39 : decode cX10_unlikes 39 = .ok (.goto 4, 3) := by decide +kernel
theorem dX10_unlikes_42 : decode cX10_unlikes 42 = .ok (.iconst 0, 1) := by decide +kernel
theorem dX10_unlikes_43 : decode cX10_unlikes 43 = .ok (.ior, 1) := by decide +kernel
theorem dX10_unlikes_44 : decode cX10_unlikes 44 = .ok (.istore_n 1, 1) := by decide +kernel
theorem dX10_unlikes_45 : decode cX10_unlikes 45 = .ok (.iinc 2 1, 3) := by decide +kernel
theorem dX10_unlikes_48 : decode cX10_unlikes 48 = .ok (.goto (-44), 3) := by decide +kernel
theorem dX10_unlikes_51 : decode cX10_unlikes 51 = .ok (.iload_n 1, 1) := by decide +kernel
theorem dX10_unlikes_52 : decode cX10_unlikes 52 = .ok (.invokestatic 162, 3) := by decide +kernel
theorem dX10_unlikes_55 : decode cX10_unlikes 55 = .ok (.ireturn, 1) := by decide +kernel
def fX10_unlikes_43 (F : Nat) (t_stones : Int32) (t_slot_ : Nat → Int32) (k4 : Int32 → Int32 → Option (Int32)) (x11 : Int32) (s12 : Int32) (s13 : Int32) : Option (Int32) :=
(jl_let (s13 ||| s12) fun v14 =>
(jl_let (x11 + Int32.ofInt (1)) fun v15 =>
(k4 v14 v15)))
def bX10_unlikes_4 (F : Nat) (t_stones : Int32) (t_slot_ : Nat → Int32)  (k4 : Int32 → Int32 → Option (Int32)) (x1 : Int32) (x2 : Int32) : Option (Int32) :=
(if t_stones ≤ x2 then
((fX10_many F x1).bind fun r4 =>
(some (r4)))
else
(if (((220 : Int32)) + x2) < 0 ∨ 240 ≤ (((220 : Int32)) + x2).toNatClampNeg then none else
(jl_let (t_slot_ (((220 : Int32)) + x2).toNatClampNeg) fun v7 =>
((fX10_in v7.toInt64 ((1 : Int64)) ((3 : Int64))).bind fun r8 =>
(if r8 = 0 then
(fX10_unlikes_43 F t_stones t_slot_ k4 x2 ((0 : Int32)) x1)
else
(fX10_unlikes_43 F t_stones t_slot_ k4 x2 (((1 : Int32)) <<< (v7 &&& 31)) x1))))))
def lX10_unlikes_4 (F : Nat) (t_stones : Int32) (t_slot_ : Nat → Int32)  (F2 : Nat) (x1 : Int32) (x2 : Int32) : Option (Int32) := jl_loop2 (bX10_unlikes_4 F t_stones t_slot_ ) F2 x1 x2
def fX10_unlikes (F : Nat) (t_stones : Int32) (t_slot_ : Nat → Int32) : Option (Int32) :=
(lX10_unlikes_4 F t_stones t_slot_ F ((0 : Int32)) ((0 : Int32)))
def oX10_unlikes (D : jv_D) (h_t : Nat) (h_t_text : Nat) (h_t_told : Nat) (h_t_touches : Nat) (h_t_has : Nat) (h_t_old : Nat) (h_t_beside : Nat) (h_t_slot : Nat) (h_t_row : Nat) (h_t_free : Nat) (h_t_worth : Nat) (h_t_fore : Nat) (h_t_back : Nat) (h_t_got : Nat) (t_length : Int32) (t_at : Int32) (t_stones : Int32) (t_kept : Int32) (t_done : Int32) (t_rows : Int32) (t_frees : Int32) (t_fewest : Int32) (t_slot_ : Nat → Int32) (r : Int32) : va_W := [(h_t, .inr (8, [.int t_length, .ref h_t_text, .int t_at, .ref h_t_told, .ref h_t_touches, .ref h_t_has, .ref h_t_old, .ref h_t_beside, .int t_stones, .ref h_t_slot, .int t_kept, .int t_done, .int t_rows, .ref h_t_row, .ref h_t_free, .int t_frees, .ref h_t_worth, .ref h_t_fore, .ref h_t_back, .int t_fewest, .ref h_t_got])), (h_t_slot, jI D 240 t_slot_)]
set_option maxHeartbeats 40000000 in
set_option maxRecDepth 100000 in
theorem mX10_unlikes (l : Launch) (D : jv_D) (F : Nat) (h_t : Nat) (h_t_text : Nat) (h_t_told : Nat) (h_t_touches : Nat) (h_t_has : Nat) (h_t_old : Nat) (h_t_beside : Nat) (h_t_slot : Nat) (h_t_row : Nat) (h_t_free : Nat) (h_t_worth : Nat) (h_t_fore : Nat) (h_t_back : Nat) (h_t_got : Nat) (t_length : Int32) (t_at : Int32) (t_stones : Int32) (t_kept : Int32) (t_done : Int32) (t_rows : Int32) (t_frees : Int32) (t_fewest : Int32) (t_slot_ : Nat → Int32) (r : Int32) (h : fX10_unlikes F t_stones t_slot_ = some r) : MM l yX10_unlikes (jW yX10_unlikes cX10_unlikes 4 (some .int)) ({ frames := 1, cells := 0, slots := 0, locals := 25 }) D [.ref h_t] [(h_t, .inr (8, [.int t_length, .ref h_t_text, .int t_at, .ref h_t_told, .ref h_t_touches, .ref h_t_has, .ref h_t_old, .ref h_t_beside, .int t_stones, .ref h_t_slot, .int t_kept, .int t_done, .int t_rows, .ref h_t_row, .ref h_t_free, .int t_frees, .ref h_t_worth, .ref h_t_fore, .ref h_t_back, .int t_fewest, .ref h_t_got])), (h_t_slot, jI D 240 t_slot_)] (some (.int r)) (oX10_unlikes D h_t h_t_text h_t_told h_t_touches h_t_has h_t_old h_t_beside h_t_slot h_t_row h_t_free h_t_worth h_t_fore h_t_back h_t_got t_length t_at t_stones t_kept t_done t_rows t_frees t_fewest t_slot_ r) := by
  refine mn_of hpX10_unlikes (Nat.le_of_ble_eq_true rfl) ?_
  intro X hXl C E0 hN
  subst hXl
  replace C : JC D X 4 RX10 cX10_unlikes ({ frames := 1, cells := 0, slots := 0, locals := 25 }) := C
  have E : JE D X 0 0 (some .int) (fun _ : Unit => (some (.int r))) (fun _ : Unit => (oX10_unlikes D h_t h_t_text h_t_told h_t_touches h_t_has h_t_old h_t_beside h_t_slot h_t_row h_t_free h_t_worth h_t_fore h_t_back h_t_got t_length t_at t_stones t_kept t_done t_rows t_frees t_fewest t_slot_ r)) := E0 0 0 rfl rfl
  clear E0 hN
  show JJ D X 4 0 0 0 [(0, .ref h_t)] [] [(h_t, .inr (8, [.int t_length, .ref h_t_text, .int t_at, .ref h_t_told, .ref h_t_touches, .ref h_t_has, .ref h_t_old, .ref h_t_beside, .int t_stones, .ref h_t_slot, .int t_kept, .int t_done, .int t_rows, .ref h_t_row, .ref h_t_free, .int t_frees, .ref h_t_worth, .ref h_t_fore, .ref h_t_back, .int t_fewest, .ref h_t_got])), (h_t_slot, jI D 240 t_slot_)]
  unfold fX10_unlikes at h
  have L4 : ∀ (x1 : Int32) (x2 : Int32), lX10_unlikes_4 F t_stones t_slot_  F x1 x2 = some r → JJ D X 4 0 0 4 [(0, .ref h_t), (1, .int x1), (2, .int x2)] [] [(h_t, .inr (8, [.int t_length, .ref h_t_text, .int t_at, .ref h_t_told, .ref h_t_touches, .ref h_t_has, .ref h_t_old, .ref h_t_beside, .int t_stones, .ref h_t_slot, .int t_kept, .int t_done, .int t_rows, .ref h_t_row, .ref h_t_free, .int t_frees, .ref h_t_worth, .ref h_t_fore, .ref h_t_back, .int t_fewest, .ref h_t_got])), (h_t_slot, jI D 240 t_slot_)] := by
    intro x1 x2 h
    refine jl_ind2 (fun x1 x2 => JJ D X 4 0 0 4 [(0, .ref h_t), (1, .int x1), (2, .int x2)] [] [(h_t, .inr (8, [.int t_length, .ref h_t_text, .int t_at, .ref h_t_told, .ref h_t_touches, .ref h_t_has, .ref h_t_old, .ref h_t_beside, .int t_stones, .ref h_t_slot, .int t_kept, .int t_done, .int t_rows, .ref h_t_row, .ref h_t_free, .int t_frees, .ref h_t_worth, .ref h_t_fore, .ref h_t_back, .int t_fewest, .ref h_t_got])), (h_t_slot, jI D 240 t_slot_)]) ?_ F x1 x2 h
    clear h x1 x2
    intro k4 i4 x1 x2 h
    replace i4 : ∀ (x1 : Int32) (x2 : Int32), k4 x1 x2 = some r → JJ D X 4 0 0 4 [(0, .ref h_t), (1, .int x1), (2, .int x2)] [] [(h_t, .inr (8, [.int t_length, .ref h_t_text, .int t_at, .ref h_t_told, .ref h_t_touches, .ref h_t_has, .ref h_t_old, .ref h_t_beside, .int t_stones, .ref h_t_slot, .int t_kept, .int t_done, .int t_rows, .ref h_t_row, .ref h_t_free, .int t_frees, .ref h_t_worth, .ref h_t_fore, .ref h_t_back, .int t_fewest, .ref h_t_got])), (h_t_slot, jI D 240 t_slot_)] := i4
    show JJ D X 4 0 0 4 [(0, .ref h_t), (1, .int x1), (2, .int x2)] [] [(h_t, .inr (8, [.int t_length, .ref h_t_text, .int t_at, .ref h_t_told, .ref h_t_touches, .ref h_t_has, .ref h_t_old, .ref h_t_beside, .int t_stones, .ref h_t_slot, .int t_kept, .int t_done, .int t_rows, .ref h_t_row, .ref h_t_free, .int t_frees, .ref h_t_worth, .ref h_t_fore, .ref h_t_back, .int t_fewest, .ref h_t_got])), (h_t_slot, jI D 240 t_slot_)]
    unfold bX10_unlikes_4 at h
    have L43 : ∀ (x11 : Int32) (s12 : Int32) (s13 : Int32), fX10_unlikes_43 F t_stones t_slot_ k4 x11 s12 s13 = some r → JJ D X 4 0 0 43 [(0, .ref h_t), (2, .int x11)] [.int s12, .int s13] [(h_t, .inr (8, [.int t_length, .ref h_t_text, .int t_at, .ref h_t_told, .ref h_t_touches, .ref h_t_has, .ref h_t_old, .ref h_t_beside, .int t_stones, .ref h_t_slot, .int t_kept, .int t_done, .int t_rows, .ref h_t_row, .ref h_t_free, .int t_frees, .ref h_t_worth, .ref h_t_fore, .ref h_t_back, .int t_fewest, .ref h_t_got])), (h_t_slot, jI D 240 t_slot_)] := by
      intro x11 s12 s13 h
      unfold fX10_unlikes_43 at h
      refine j_ior C dX10_unlikes_43 ?_
      refine j_istore_n C dX10_unlikes_44 rfl (lv' := fun v14 => [(1, .int v14), (0, .ref h_t), (2, .int x11)]) (by decide) (fun _ => rfl) h (fun v14 h => ?_)
      refine j_iinc C dX10_unlikes_45 2 rfl (lv' := fun v15 => [(2, .int v15), (1, .int v14), (0, .ref h_t)]) (by decide) (fun _ => rfl) h (fun v15 h => ?_)
      refine j_goto C dX10_unlikes_48 (tgt := 4) (by decide) ?_
      refine j_sub (lv' := [(0, .ref h_t), (1, .int v14), (2, .int v15)]) [2, 1, 0] rfl ?_
      exact i4 v14 v15 h
    refine j_iload_n C dX10_unlikes_4 rfl 2 rfl ?_
    refine j_aload_n C dX10_unlikes_5 rfl 0 rfl ?_
    refine j_get C ibX10 (ci := 8) 0 rfl rfl 8 (by decide) bfX10_91 (v := .int t_stones) rfl dX10_unlikes_6 ?_
    refine j_icmp_ge C (tgt := 51) dX10_unlikes_9 (by decide) h (fun c3 h => ?_) (fun c3 h => ?_)
    · refine j_iload_n C dX10_unlikes_51 rfl 1 rfl ?_
      obtain ⟨r4, q5, h⟩ := jl_bind h
      refine j_cS1 C (mX10_many (jlaunch X) D F x1 r4 q5) bmX10_162 btX10_many bzX10 bcX10_many hX10_many (rest := []) rfl (jroom_of rfl) [] [0, 1] [0, 1] (wr := [(h_t, .inr (8, [.int t_length, .ref h_t_text, .int t_at, .ref h_t_told, .ref h_t_touches, .ref h_t_has, .ref h_t_old, .ref h_t_beside, .int t_stones, .ref h_t_slot, .int t_kept, .int t_done, .int t_rows, .ref h_t_row, .ref h_t_free, .int t_frees, .ref h_t_worth, .ref h_t_fore, .ref h_t_back, .int t_fewest, .ref h_t_got])), (h_t_slot, jI D 240 t_slot_)]) (ws2 := [(h_t, .inr (8, [.int t_length, .ref h_t_text, .int t_at, .ref h_t_told, .ref h_t_touches, .ref h_t_has, .ref h_t_old, .ref h_t_beside, .int t_stones, .ref h_t_slot, .int t_kept, .int t_done, .int t_rows, .ref h_t_row, .ref h_t_free, .int t_frees, .ref h_t_worth, .ref h_t_fore, .ref h_t_back, .int t_fewest, .ref h_t_got])), (h_t_slot, jI D 240 t_slot_)]) rfl rfl rfl rfl rfl (Nat.le_of_ble_eq_true rfl) dX10_unlikes_52 ?_
      exact j_iretR C (r := r) (rtf := fun r => (some (.int r))) (wff := fun r => (oX10_unlikes D h_t h_t_text h_t_told h_t_touches h_t_has h_t_old h_t_beside h_t_slot h_t_row h_t_free h_t_worth h_t_fore h_t_back h_t_got t_length t_at t_stones t_kept t_done t_rows t_frees t_fewest t_slot_ r)) E h rfl rfl dX10_unlikes_55
    · refine j_aload_n C dX10_unlikes_12 rfl 0 rfl ?_
      refine j_get C ibX10 (ci := 8) 0 rfl rfl 9 (by decide) bfX10_30 (v := .ref h_t_slot) rfl dX10_unlikes_13 ?_
      refine j_sipush C dX10_unlikes_16 (v := (220 : Int32)) (by decide) ?_
      refine j_iload_n C dX10_unlikes_19 rfl 2 rfl ?_
      refine j_iadd C dX10_unlikes_20 ?_
      refine jl_inb h (fun b6 h => ?_)
      refine j_iald C 1 rfl b6 dX10_unlikes_21 ?_
      refine j_istore_n C dX10_unlikes_22 rfl (lv' := fun v7 => [(3, .int v7), (0, .ref h_t), (1, .int x1), (2, .int x2)]) (by decide) (fun _ => rfl) h (fun v7 h => ?_)
      refine j_iload_n C dX10_unlikes_23 rfl 2 rfl ?_
      refine j_iload_n C dX10_unlikes_24 rfl 0 rfl ?_
      refine j_i2l C dX10_unlikes_25 ?_
      refine j_lconst C dX10_unlikes_26 (v := (1 : Int64)) (by decide) ?_
      refine j_ldc2_w C bKX10_89 dX10_unlikes_27 ?_
      obtain ⟨r8, q9, h⟩ := jl_bind h
      refine j_cS1 C (mX10_in (jlaunch X) D v7.toInt64 ((1 : Int64)) ((3 : Int64)) r8 q9) bmX10_60 btX10_in bzX10 bcX10_in hX10_in (rest := [.int x1]) rfl (jroom_of rfl) [] [0, 1] [0, 1] (wr := [(h_t, .inr (8, [.int t_length, .ref h_t_text, .int t_at, .ref h_t_told, .ref h_t_touches, .ref h_t_has, .ref h_t_old, .ref h_t_beside, .int t_stones, .ref h_t_slot, .int t_kept, .int t_done, .int t_rows, .ref h_t_row, .ref h_t_free, .int t_frees, .ref h_t_worth, .ref h_t_fore, .ref h_t_back, .int t_fewest, .ref h_t_got])), (h_t_slot, jI D 240 t_slot_)]) (ws2 := [(h_t, .inr (8, [.int t_length, .ref h_t_text, .int t_at, .ref h_t_told, .ref h_t_touches, .ref h_t_has, .ref h_t_old, .ref h_t_beside, .int t_stones, .ref h_t_slot, .int t_kept, .int t_done, .int t_rows, .ref h_t_row, .ref h_t_free, .int t_frees, .ref h_t_worth, .ref h_t_fore, .ref h_t_back, .int t_fewest, .ref h_t_got])), (h_t_slot, jI D 240 t_slot_)]) rfl rfl rfl rfl rfl (Nat.le_of_ble_eq_true rfl) dX10_unlikes_30 ?_
      refine j_if_eq C (tgt := 42) dX10_unlikes_33 (by decide) h (fun c10 h => ?_) (fun c10 h => ?_)
      · refine j_iconst C dX10_unlikes_42 (v := (0 : Int32)) (by decide) ?_
        refine j_sub (lv' := [(0, .ref h_t), (2, .int x2)]) [1, 3] rfl ?_
        exact L43 x2 ((0 : Int32)) x1 h
      · refine j_iconst C dX10_unlikes_36 (v := (1 : Int32)) (by decide) ?_
        refine j_iload_n C dX10_unlikes_37 rfl 0 rfl ?_
        refine j_ishl C dX10_unlikes_38 ?_
        refine j_goto C dX10_unlikes_39 (tgt := 43) (by decide) ?_
        refine j_sub (lv' := [(0, .ref h_t), (2, .int x2)]) [1, 3] rfl ?_
        exact L43 x2 (((1 : Int32)) <<< (v7 &&& 31)) x1 h
  refine j_iconst C dX10_unlikes_0 (v := (0 : Int32)) (by decide) ?_
  refine j_istore_nC C dX10_unlikes_1 rfl (lv' := [(1, .int ((0 : Int32))), (0, .ref h_t)]) (by decide) rfl ?_
  refine j_iconst C dX10_unlikes_2 (v := (0 : Int32)) (by decide) ?_
  refine j_istore_nC C dX10_unlikes_3 rfl (lv' := [(2, .int ((0 : Int32))), (1, .int ((0 : Int32))), (0, .ref h_t)]) (by decide) rfl ?_
  refine j_sub (lv' := [(0, .ref h_t), (1, .int ((0 : Int32))), (2, .int ((0 : Int32)))]) [2, 1, 0] rfl ?_
  exact L4 ((0 : Int32)) ((0 : Int32)) h
