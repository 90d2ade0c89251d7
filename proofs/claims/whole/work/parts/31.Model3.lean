theorem dX10_isNext_0 : decode cX10_isNext 0 = .ok (.aload_n 0, 1) := by decide +kernel
theorem dX10_isNext_1 : decode cX10_isNext 1 = .ok (.getfield 30, 3) := by decide +kernel
theorem dX10_isNext_4 : decode cX10_isNext 4 = .ok (.sipush 220, 3) := by decide +kernel
theorem dX10_isNext_7 : decode cX10_isNext 7 = .ok (.iload_n 1, 1) := by decide +kernel
theorem dX10_isNext_8 : decode cX10_isNext 8 = .ok (.iadd, 1) := by decide +kernel
theorem dX10_isNext_9 : decode cX10_isNext 9 = .ok (.iaload, 1) := by decide +kernel
theorem dX10_isNext_10 : decode cX10_isNext 10 = .ok (.iconst 1, 1) := by decide +kernel
theorem dX10_isNext_11 : decode cX10_isNext 11 = .ok (.iadd, 1) := by decide +kernel
theorem dX10_isNext_12 : decode cX10_isNext 12 = .ok (.istore_n 2, 1) := by decide +kernel
theorem dX10_isNext_13 : decode cX10_isNext 13 = .ok (.iload_n 2, 1) := by decide +kernel
theorem dX10_isNext_14 : decode cX10_isNext 14 = .ok (.aload_n 0, 1) := by decide +kernel
theorem dX10_isNext_15 : decode cX10_isNext 15 = .ok (.getfield 13, 3) := by decide +kernel
theorem dX10_isNext_18 : decode cX10_isNext 18 = .ok (.iconst 2, 1) := by decide +kernel
theorem dX10_isNext_19 : decode cX10_isNext 19 = .ok (.iaload, 1) := by decide +kernel
theorem dX10_isNext_20 : decode cX10_isNext 20 = .ok (.if_icmp .gt 33, 3) := by decide +kernel
theorem dX10_isNext_23 : decode cX10_isNext 23 = .ok (.aload_n 0, 1) := by decide +kernel
theorem dX10_isNext_24 : decode cX10_isNext 24 = .ok (.bipush 11, 2) := by decide +kernel
theorem dX10_isNext_26 : decode cX10_isNext 26 = .ok (.iload_n 1, 1) := by decide +kernel
theorem dX10_isNext_27 : decode cX10_isNext 27 = .ok (.iload_n 2, 1) := by decide +kernel
theorem dX10_isNext_28 : decode cX10_isNext 28 = .ok (.invokevirtual 123, 3) := by decide +kernel
theorem dX10_isNext_31 : decode cX10_isNext 31 = .ok (.ifCond .eq 16, 3) := by decide +kernel
theorem dX10_isNext_34 : decode cX10_isNext 34 = .ok (.aload_n 0, 1) := by decide +kernel
theorem dX10_isNext_35 : decode cX10_isNext 35 = .ok (.getfield 30, 3) := by decide +kernel
theorem dX10_isNext_38 : decode cX10_isNext 38 = .ok (.sipush 220, 3) := by decide +kernel
theorem dX10_isNext_41 : decode cX10_isNext 41 = .ok (.iload_n 1, 1) := by decide +kernel
theorem dX10_isNext_42 : decode cX10_isNext 42 = .ok (.iadd, 1) := by decide +kernel
theorem dX10_isNext_43 : decode cX10_isNext 43 = .ok (.iload_n 2, 1) := by decide +kernel
theorem dX10_isNext_44 : decode cX10_isNext 44 = .ok (.iastore, 1) := by decide +kernel
theorem dX10_isNext_45 : decode cX10_isNext 45 = .ok (.iconst 1, 1) := by decide +kernel
theorem dX10_isNext_46 : decode cX10_isNext 46 = .ok (.ireturn, 1) := by decide +kernel
theorem dX10_isNext_47 : decode cX10_isNext 47 = .ok (.iinc 2 1, 3) := by decide +kernel
theorem dX10_isNext_50 : decode cX10_isNext 50 = .ok (.goto (-37), 3) := by decide +kernel
theorem dX10_isNext_53 : decode cX10_isNext 53 = .ok (.iconst 0, 1) := by decide +kernel
theorem dX10_isNext_54 : decode cX10_isNext 54 = .ok (.ireturn, 1) := by decide +kernel
def bX10_isNext_13 (F : Nat) (t_stones : Int32) (t_told_ : Nat → Int32) (t_touches_ : Nat → Int32) (t_beside_ : Nat → Int32) (p1 : Int32)  (k13 : Int32 → (Nat → Int32) → Option (Int32 × (Nat → Int32))) (x3 : Int32) (m_t_slot__4 : Nat → Int32) : Option (Int32 × (Nat → Int32)) :=
(if (t_told_ ((2 : Int32)).toNatClampNeg) < x3 then
(some ((0 : Int32), m_t_slot__4))
else
((fX10_isWell F t_stones t_touches_ t_beside_ m_t_slot__4 ((11 : Int32)) p1 x3).bind fun r6 =>
(if r6 = 0 then
(jl_let (x3 + Int32.ofInt (1)) fun v9 =>
(k13 v9 m_t_slot__4))
else
(if (((220 : Int32)) + p1) < 0 ∨ 240 ≤ (((220 : Int32)) + p1).toNatClampNeg then none else
(jl_let (upd m_t_slot__4 (((220 : Int32)) + p1).toNatClampNeg x3) fun g11 =>
(some ((1 : Int32), g11)))))))
def lX10_isNext_13 (F : Nat) (t_stones : Int32) (t_told_ : Nat → Int32) (t_touches_ : Nat → Int32) (t_beside_ : Nat → Int32) (p1 : Int32)  (F2 : Nat) (x3 : Int32) (m_t_slot__4 : Nat → Int32) : Option (Int32 × (Nat → Int32)) := jl_loop2 (bX10_isNext_13 F t_stones t_told_ t_touches_ t_beside_ p1 ) F2 x3 m_t_slot__4
def fX10_isNext (F : Nat) (t_stones : Int32) (t_told_ : Nat → Int32) (t_touches_ : Nat → Int32) (t_beside_ : Nat → Int32) (t_slot_ : Nat → Int32) (p1 : Int32) : Option (Int32 × (Nat → Int32)) :=
(if (((220 : Int32)) + p1) < 0 ∨ 240 ≤ (((220 : Int32)) + p1).toNatClampNeg then none else
(jl_let ((t_slot_ (((220 : Int32)) + p1).toNatClampNeg) + ((1 : Int32))) fun v2 =>
(lX10_isNext_13 F t_stones t_told_ t_touches_ t_beside_ p1 F v2 t_slot_)))
def oX10_isNext (D : jv_D) (h_t : Nat) (h_t_text : Nat) (h_t_told : Nat) (h_t_touches : Nat) (h_t_has : Nat) (h_t_old : Nat) (h_t_beside : Nat) (h_t_slot : Nat) (h_t_row : Nat) (h_t_free : Nat) (h_t_worth : Nat) (h_t_fore : Nat) (h_t_back : Nat) (h_t_got : Nat) (t_length : Int32) (t_at : Int32) (t_stones : Int32) (t_kept : Int32) (t_done : Int32) (t_rows : Int32) (t_frees : Int32) (t_fewest : Int32) (t_told_ : Nat → Int32) (t_touches_ : Nat → Int32) (t_beside_ : Nat → Int32) (r : Int32 × (Nat → Int32)) : va_W := [(h_t, .inr (8, [.int t_length, .ref h_t_text, .int t_at, .ref h_t_told, .ref h_t_touches, .ref h_t_has, .ref h_t_old, .ref h_t_beside, .int t_stones, .ref h_t_slot, .int t_kept, .int t_done, .int t_rows, .ref h_t_row, .ref h_t_free, .int t_frees, .ref h_t_worth, .ref h_t_fore, .ref h_t_back, .int t_fewest, .ref h_t_got])), (h_t_told, jI D 8 t_told_), (h_t_touches, jZ D 32 t_touches_), (h_t_beside, jI D 9 t_beside_), (h_t_slot, jI D 240 r.2)]
set_option maxHeartbeats 40000000 in
set_option maxRecDepth 100000 in
theorem mX10_isNext (l : Launch) (D : jv_D) (F : Nat) (h_t : Nat) (h_t_text : Nat) (h_t_told : Nat) (h_t_touches : Nat) (h_t_has : Nat) (h_t_old : Nat) (h_t_beside : Nat) (h_t_slot : Nat) (h_t_row : Nat) (h_t_free : Nat) (h_t_worth : Nat) (h_t_fore : Nat) (h_t_back : Nat) (h_t_got : Nat) (t_length : Int32) (t_at : Int32) (t_stones : Int32) (t_kept : Int32) (t_done : Int32) (t_rows : Int32) (t_frees : Int32) (t_fewest : Int32) (t_told_ : Nat → Int32) (t_touches_ : Nat → Int32) (t_beside_ : Nat → Int32) (t_slot_ : Nat → Int32) (p1 : Int32) (r : Int32 × (Nat → Int32)) (h : fX10_isNext F t_stones t_told_ t_touches_ t_beside_ t_slot_ p1 = some r) : MM l yX10_isNext (jW yX10_isNext cX10_isNext 3 (some .boolean)) ({ frames := 1, cells := 0, slots := 0, locals := 26 }) D [.ref h_t, .int p1] [(h_t, .inr (8, [.int t_length, .ref h_t_text, .int t_at, .ref h_t_told, .ref h_t_touches, .ref h_t_has, .ref h_t_old, .ref h_t_beside, .int t_stones, .ref h_t_slot, .int t_kept, .int t_done, .int t_rows, .ref h_t_row, .ref h_t_free, .int t_frees, .ref h_t_worth, .ref h_t_fore, .ref h_t_back, .int t_fewest, .ref h_t_got])), (h_t_told, jI D 8 t_told_), (h_t_touches, jZ D 32 t_touches_), (h_t_beside, jI D 9 t_beside_), (h_t_slot, jI D 240 t_slot_)] (some (.int r.1)) (oX10_isNext D h_t h_t_text h_t_told h_t_touches h_t_has h_t_old h_t_beside h_t_slot h_t_row h_t_free h_t_worth h_t_fore h_t_back h_t_got t_length t_at t_stones t_kept t_done t_rows t_frees t_fewest t_told_ t_touches_ t_beside_ r) := by
  refine mn_of hpX10_isNext (Nat.le_of_ble_eq_true rfl) ?_
  intro X hXl C E0 hN
  subst hXl
  replace C : JC D X 3 RX10 cX10_isNext ({ frames := 1, cells := 0, slots := 0, locals := 26 }) := C
  have E : JE D X 0 0 (some .boolean) (fun _ : Unit => (some (.int r.1))) (fun _ : Unit => (oX10_isNext D h_t h_t_text h_t_told h_t_touches h_t_has h_t_old h_t_beside h_t_slot h_t_row h_t_free h_t_worth h_t_fore h_t_back h_t_got t_length t_at t_stones t_kept t_done t_rows t_frees t_fewest t_told_ t_touches_ t_beside_ r)) := E0 0 0 rfl rfl
  clear E0 hN
  show JJ D X 3 0 0 0 [(0, .ref h_t), (1, .int p1)] [] [(h_t, .inr (8, [.int t_length, .ref h_t_text, .int t_at, .ref h_t_told, .ref h_t_touches, .ref h_t_has, .ref h_t_old, .ref h_t_beside, .int t_stones, .ref h_t_slot, .int t_kept, .int t_done, .int t_rows, .ref h_t_row, .ref h_t_free, .int t_frees, .ref h_t_worth, .ref h_t_fore, .ref h_t_back, .int t_fewest, .ref h_t_got])), (h_t_told, jI D 8 t_told_), (h_t_touches, jZ D 32 t_touches_), (h_t_beside, jI D 9 t_beside_), (h_t_slot, jI D 240 t_slot_)]
  unfold fX10_isNext at h
  have L13 : ∀ (x3 : Int32) (m_t_slot__4 : Nat → Int32), lX10_isNext_13 F t_stones t_told_ t_touches_ t_beside_ p1  F x3 m_t_slot__4 = some r → JJ D X 3 0 0 13 [(0, .ref h_t), (1, .int p1), (2, .int x3)] [] [(h_t, .inr (8, [.int t_length, .ref h_t_text, .int t_at, .ref h_t_told, .ref h_t_touches, .ref h_t_has, .ref h_t_old, .ref h_t_beside, .int t_stones, .ref h_t_slot, .int t_kept, .int t_done, .int t_rows, .ref h_t_row, .ref h_t_free, .int t_frees, .ref h_t_worth, .ref h_t_fore, .ref h_t_back, .int t_fewest, .ref h_t_got])), (h_t_told, jI D 8 t_told_), (h_t_touches, jZ D 32 t_touches_), (h_t_beside, jI D 9 t_beside_), (h_t_slot, jI D 240 m_t_slot__4)] := by
    intro x3 m_t_slot__4 h
    refine jl_ind2 (fun x3 m_t_slot__4 => JJ D X 3 0 0 13 [(0, .ref h_t), (1, .int p1), (2, .int x3)] [] [(h_t, .inr (8, [.int t_length, .ref h_t_text, .int t_at, .ref h_t_told, .ref h_t_touches, .ref h_t_has, .ref h_t_old, .ref h_t_beside, .int t_stones, .ref h_t_slot, .int t_kept, .int t_done, .int t_rows, .ref h_t_row, .ref h_t_free, .int t_frees, .ref h_t_worth, .ref h_t_fore, .ref h_t_back, .int t_fewest, .ref h_t_got])), (h_t_told, jI D 8 t_told_), (h_t_touches, jZ D 32 t_touches_), (h_t_beside, jI D 9 t_beside_), (h_t_slot, jI D 240 m_t_slot__4)]) ?_ F x3 m_t_slot__4 h
    clear h x3 m_t_slot__4
    intro k13 i13 x3 m_t_slot__4 h
    replace i13 : ∀ (x3 : Int32) (m_t_slot__4 : Nat → Int32), k13 x3 m_t_slot__4 = some r → JJ D X 3 0 0 13 [(0, .ref h_t), (1, .int p1), (2, .int x3)] [] [(h_t, .inr (8, [.int t_length, .ref h_t_text, .int t_at, .ref h_t_told, .ref h_t_touches, .ref h_t_has, .ref h_t_old, .ref h_t_beside, .int t_stones, .ref h_t_slot, .int t_kept, .int t_done, .int t_rows, .ref h_t_row, .ref h_t_free, .int t_frees, .ref h_t_worth, .ref h_t_fore, .ref h_t_back, .int t_fewest, .ref h_t_got])), (h_t_told, jI D 8 t_told_), (h_t_touches, jZ D 32 t_touches_), (h_t_beside, jI D 9 t_beside_), (h_t_slot, jI D 240 m_t_slot__4)] := i13
    show JJ D X 3 0 0 13 [(0, .ref h_t), (1, .int p1), (2, .int x3)] [] [(h_t, .inr (8, [.int t_length, .ref h_t_text, .int t_at, .ref h_t_told, .ref h_t_touches, .ref h_t_has, .ref h_t_old, .ref h_t_beside, .int t_stones, .ref h_t_slot, .int t_kept, .int t_done, .int t_rows, .ref h_t_row, .ref h_t_free, .int t_frees, .ref h_t_worth, .ref h_t_fore, .ref h_t_back, .int t_fewest, .ref h_t_got])), (h_t_told, jI D 8 t_told_), (h_t_touches, jZ D 32 t_touches_), (h_t_beside, jI D 9 t_beside_), (h_t_slot, jI D 240 m_t_slot__4)]
    unfold bX10_isNext_13 at h
    refine j_iload_n C dX10_isNext_13 rfl 2 rfl ?_
    refine j_aload_n C dX10_isNext_14 rfl 0 rfl ?_
    refine j_get C ibX10 (ci := 8) 0 rfl rfl 3 (by decide) bfX10_13 (v := .ref h_t_told) rfl dX10_isNext_15 ?_
    refine j_iconst C dX10_isNext_18 (v := (2 : Int32)) (by decide) ?_
    refine j_iald C 1 rfl (by unfold vp_in; decide) dX10_isNext_19 ?_
    refine j_icmp_gt C (tgt := 53) dX10_isNext_20 (by decide) h (fun c5 h => ?_) (fun c5 h => ?_)
    · refine j_iconst C dX10_isNext_53 (v := (0 : Int32)) (by decide) ?_
      exact j_zretR C (r := r) (rtf := fun r => (some (.int r.1))) (wff := fun r => (oX10_isNext D h_t h_t_text h_t_told h_t_touches h_t_has h_t_old h_t_beside h_t_slot h_t_row h_t_free h_t_worth h_t_fore h_t_back h_t_got t_length t_at t_stones t_kept t_done t_rows t_frees t_fewest t_told_ t_touches_ t_beside_ r)) E rfl h rfl rfl dX10_isNext_54
    · refine j_aload_n C dX10_isNext_23 rfl 0 rfl ?_
      refine j_bipush C dX10_isNext_24 (v := (11 : Int32)) (by decide) ?_
      refine j_iload_n C dX10_isNext_26 rfl 1 rfl ?_
      refine j_iload_n C dX10_isNext_27 rfl 2 rfl ?_
      obtain ⟨r6, q7, h⟩ := jl_bind h
      refine j_cV1 C (mX10_isWell (jlaunch X) D F h_t h_t_text h_t_told h_t_touches h_t_has h_t_old h_t_beside h_t_slot h_t_row h_t_free h_t_worth h_t_fore h_t_back h_t_got t_length t_at t_stones t_kept t_done t_rows t_frees t_fewest t_touches_ t_beside_ m_t_slot__4 ((11 : Int32)) p1 x3 r6 q7) bmX10_123 biX10_isWell bsX10_isWell bzX10 bcX10_isWell rfl hX10_isWell (rest := []) rfl (jroom_of rfl) 0 (ci := 8) rfl rfl rfl [0, 2, 3, 4] [1] [1, 0, 2, 3, 4] (wr := [(h_t_told, jI D 8 t_told_)]) (ws2 := [(h_t, .inr (8, [.int t_length, .ref h_t_text, .int t_at, .ref h_t_told, .ref h_t_touches, .ref h_t_has, .ref h_t_old, .ref h_t_beside, .int t_stones, .ref h_t_slot, .int t_kept, .int t_done, .int t_rows, .ref h_t_row, .ref h_t_free, .int t_frees, .ref h_t_worth, .ref h_t_fore, .ref h_t_back, .int t_fewest, .ref h_t_got])), (h_t_told, jI D 8 t_told_), (h_t_touches, jZ D 32 t_touches_), (h_t_beside, jI D 9 t_beside_), (h_t_slot, jI D 240 m_t_slot__4)]) rfl rfl rfl rfl rfl (Nat.le_of_ble_eq_true rfl) dX10_isNext_28 ?_
      refine j_if_eq C (tgt := 47) dX10_isNext_31 (by decide) h (fun c8 h => ?_) (fun c8 h => ?_)
      · refine j_iinc C dX10_isNext_47 2 rfl (lv' := fun v9 => [(2, .int v9), (0, .ref h_t), (1, .int p1)]) (by decide) (fun _ => rfl) h (fun v9 h => ?_)
        refine j_goto C dX10_isNext_50 (tgt := 13) (by decide) ?_
        refine j_sub (lv' := [(0, .ref h_t), (1, .int p1), (2, .int v9)]) [1, 2, 0] rfl ?_
        exact i13 v9 m_t_slot__4 h
      · refine j_aload_n C dX10_isNext_34 rfl 0 rfl ?_
        refine j_get C ibX10 (ci := 8) 0 rfl rfl 9 (by decide) bfX10_30 (v := .ref h_t_slot) rfl dX10_isNext_35 ?_
        refine j_sipush C dX10_isNext_38 (v := (220 : Int32)) (by decide) ?_
        refine j_iload_n C dX10_isNext_41 rfl 1 rfl ?_
        refine j_iadd C dX10_isNext_42 ?_
        refine j_iload_n C dX10_isNext_43 rfl 2 rfl ?_
        refine jl_inb h (fun b10 h => ?_)
        refine j_iast C 4 rfl b10 dX10_isNext_44 (ws' := fun g11 => [(h_t, .inr (8, [.int t_length, .ref h_t_text, .int t_at, .ref h_t_told, .ref h_t_touches, .ref h_t_has, .ref h_t_old, .ref h_t_beside, .int t_stones, .ref h_t_slot, .int t_kept, .int t_done, .int t_rows, .ref h_t_row, .ref h_t_free, .int t_frees, .ref h_t_worth, .ref h_t_fore, .ref h_t_back, .int t_fewest, .ref h_t_got])), (h_t_told, jI D 8 t_told_), (h_t_touches, jZ D 32 t_touches_), (h_t_beside, jI D 9 t_beside_), (h_t_slot, jI D 240 g11)]) (fun _ => rfl) h (fun g11 h => ?_)
        refine j_iconst C dX10_isNext_45 (v := (1 : Int32)) (by decide) ?_
        exact j_zretR C (r := r) (rtf := fun r => (some (.int r.1))) (wff := fun r => (oX10_isNext D h_t h_t_text h_t_told h_t_touches h_t_has h_t_old h_t_beside h_t_slot h_t_row h_t_free h_t_worth h_t_fore h_t_back h_t_got t_length t_at t_stones t_kept t_done t_rows t_frees t_fewest t_told_ t_touches_ t_beside_ r)) E rfl h rfl rfl dX10_isNext_46
  refine j_aload_n C dX10_isNext_0 rfl 0 rfl ?_
  refine j_get C ibX10 (ci := 8) 0 rfl rfl 9 (by decide) bfX10_30 (v := .ref h_t_slot) rfl dX10_isNext_1 ?_
  refine j_sipush C dX10_isNext_4 (v := (220 : Int32)) (by decide) ?_
  refine j_iload_n C dX10_isNext_7 rfl 1 rfl ?_
  refine j_iadd C dX10_isNext_8 ?_
  refine jl_inb h (fun b1 h => ?_)
  refine j_iald C 4 rfl b1 dX10_isNext_9 ?_
  refine j_iconst C dX10_isNext_10 (v := (1 : Int32)) (by decide) ?_
  refine j_iadd C dX10_isNext_11 ?_
  refine j_istore_n C dX10_isNext_12 rfl (lv' := fun v2 => [(2, .int v2), (0, .ref h_t), (1, .int p1)]) (by decide) (fun _ => rfl) h (fun v2 h => ?_)
  refine j_sub (lv' := [(0, .ref h_t), (1, .int p1), (2, .int v2)]) [1, 2, 0] rfl ?_
  exact L13 v2 t_slot_ h
theorem dX10_waysOf_0 : decode cX10_waysOf 0 = .ok (.aload_n 0, 1) := by decide +kernel
theorem dX10_waysOf_1 : decode cX10_waysOf 1 = .ok (.invokevirtual 150, 3) := by decide +kernel
theorem dX10_waysOf_4 : decode cX10_waysOf 4 = .ok (.aload_n 0, 1) := by decide +kernel
theorem dX10_waysOf_5 : decode cX10_waysOf 5 = .ok (.bipush (-4), 2) := by decide +kernel
theorem dX10_waysOf_7 : decode cX10_waysOf 7 = .ok (.putfield 153, 3) := by decide +kernel
theorem dX10_waysOf_10 : decode cX10_waysOf 10 = .ok (.iconst 0, 1) := by decide +kernel
theorem dX10_waysOf_11 : decode cX10_waysOf 11 = .ok (.istore_n 1, 1) := by decide +kernel
theorem dX10_waysOf_12 : decode cX10_waysOf 12 = .ok (.iconst 0, 1) := by decide +kernel
theorem dX10_waysOf_13 : decode cX10_waysOf 13 = .ok (.istore_n 2, 1) := by decide +kernel
theorem dX10_waysOf_14 : decode cX10_waysOf 14 = .ok (.iconst 1, 1) := by decide +kernel
theorem dX10_waysOf_15 : decode cX10_waysOf 15 = .ok (.istore_n 3, 1) := by decide +kernel
theorem dX10_waysOf_16 : decode cX10_waysOf 16 = .ok (.iload_n 3, 1) := by decide +kernel
theorem dX10_waysOf_17 : decode cX10_waysOf 17 = .ok (.ifCond .eq 107, 3) := by decide +kernel
theorem dX10_waysOf_20 : decode cX10_waysOf 20 = .ok (.iload_n 2, 1) := by decide +kernel
theorem dX10_waysOf_21 : decode cX10_waysOf 21 = .ok (.aload_n 0, 1) := by decide +kernel
theorem dX10_waysOf_22 : decode cX10_waysOf 22 = .ok (.getfield 147, 3) := by decide +kernel
theorem dX10_waysOf_25 : decode cX10_waysOf 25 = .ok (.if_icmp .ne 44, 3) := by decide +kernel
theorem dX10_waysOf_28 : decode cX10_waysOf 28 = .ok (.iinc 1 1, 3) := by decide +kernel
theorem dX10_waysOf_31 : decode cX10_waysOf 31 = .ok (.aload_n 0, 1) := by decide +kernel
theorem dX10_waysOf_32 : decode cX10_waysOf 32 = .ok (.invokevirtual 156, 3) := by decide +kernel
theorem dX10_waysOf_35 : decode cX10_waysOf 35 = .ok (.istore 4, 2) := by decide +kernel
theorem dX10_waysOf_37 : decode cX10_waysOf 37 = .ok (.aload_n 0, 1) := by decide +kernel
theorem dX10_waysOf_38 : decode cX10_waysOf 38 = .ok (.aload_n 0, 1) := by decide +kernel
theorem dX10_waysOf_39 : decode cX10_waysOf 39 = .ok (.getfield 153, 3) := by decide +kernel
theorem dX10_waysOf_42 : decode cX10_waysOf 42 = .ok (.ifCond .lt 12, 3) := by decide +kernel
theorem dX10_waysOf_45 : decode cX10_waysOf 45 = .ok (.iload 4, 2) := by decide +kernel
theorem dX10_waysOf_47 : decode cX10_waysOf 47 = .ok (.aload_n 0, 1) := by decide +kernel
theorem dX10_waysOf_48 : decode cX10_waysOf 48 = .ok (.getfield 153, 3) := by decide +kernel
theorem dX10_waysOf_51 : decode cX10_waysOf 51 = .ok (.if_icmp .ge 8, 3) := by decide +kernel
theorem dX10_waysOf_54 : decode cX10_waysOf 54 = .ok (.iload 4, 2) := by decide +kernel
theorem dX10_waysOf_56 : decode cX10_waysOf 56 = .ok (.goto 7, 3) := by decide +kernel
theorem dX10_waysOf_59 : decode cX10_waysOf 59 = .ok (.aload_n 0, 1) := by decide +kernel
theorem dX10_waysOf_60 : decode cX10_waysOf 60 = .ok (.getfield 153, 3) := by decide +kernel
theorem dX10_waysOf_63 : decode cX10_waysOf 63 = .ok (.putfield 153, 3) := by decide +kernel
theorem dX10_waysOf_66 : decode cX10_waysOf 66 = .ok (.iinc 2 (-1), 3) := by decide +kernel
theorem dX10_waysOf_69 : decode cX10_waysOf 69 = .ok (.iload_n 2, 1) := by decide +kernel
theorem dX10_waysOf_70 : decode cX10_waysOf 70 = .ok (.ifCond .lt 38, 3) := by decide +kernel
theorem dX10_waysOf_73 : decode cX10_waysOf 73 = .ok (.aload_n 0, 1) := by decide +kernel
theorem dX10_waysOf_74 : decode cX10_waysOf 74 = .ok (.aload_n 0, 1) := by decide +kernel
theorem dX10_waysOf_75 : decode cX10_waysOf 75 = .ok (.getfield 36, 3) := by decide +kernel
theorem dX10_waysOf_78 : decode cX10_waysOf 78 = .ok (.iload_n 2, 1) := by decide +kernel
theorem dX10_waysOf_79 : decode cX10_waysOf 79 = .ok (.iaload, 1) := by decide +kernel
theorem dX10_waysOf_80 : decode cX10_waysOf 80 = .ok (.invokevirtual 159, 3) := by decide +kernel
theorem dX10_waysOf_83 : decode cX10_waysOf 83 = .ok (.ifCond .ne 25, 3) := by decide +kernel
theorem dX10_waysOf_86 : decode cX10_waysOf 86 = .ok (.aload_n 0, 1) := by decide +kernel
theorem dX10_waysOf_87 : decode cX10_waysOf 87 = .ok (.getfield 30, 3) := by decide +kernel
theorem dX10_waysOf_90 : decode cX10_waysOf 90 = .ok (.sipush 220, 3) := by decide +kernel
theorem dX10_waysOf_93 : decode cX10_waysOf 93 = .ok (.aload_n 0, 1) := by decide +kernel
theorem dX10_waysOf_94 : decode cX10_waysOf 94 = .ok (.getfield 36, 3) := by decide +kernel
theorem dX10_waysOf_97 : decode cX10_waysOf 97 = .ok (.iload_n 2, 1) := by decide +kernel
theorem dX10_waysOf_98 : decode cX10_waysOf 98 = .ok (.iaload, 1) := by decide +kernel
theorem dX10_waysOf_99 : decode cX10_waysOf 99 = .ok (.iadd, 1) := by decide +kernel
theorem dX10_waysOf_100 : decode cX10_waysOf 100 = .ok (.iconst 0, 1) := by decide +kernel
theorem dX10_waysOf_101 : decode cX10_waysOf 101 = .ok (.iastore, 1) := by decide +kernel
theorem dX10_waysOf_102 : decode cX10_waysOf 102 = .ok (.iinc 2 (-1), 3) := by decide +kernel
theorem dX10_waysOf_105 : decode cX10_waysOf 105 = .ok (.goto (-36), 3) := by decide +kernel
theorem dX10_waysOf_108 : decode cX10_waysOf 108 = .ok (.iload_n 2, 1) := by decide +kernel
theorem dX10_waysOf_109 : decode cX10_waysOf 109 = .ok (.ifCond .lt 7, 3) := by decide +kernel
theorem dX10_waysOf_112 : decode cX10_waysOf 112 = .ok (.iconst 1, 1) := by decide +kernel
theorem dX10_waysOf_113 : decode cX10_waysOf 113 = .ok (.goto 4, 3) := by decide +kernel
theorem dX10_waysOf_116 : decode cX10_waysOf 116 = .ok (.iconst 0, 1) := by decide +kernel
theorem dX10_waysOf_117 : decode cX10_waysOf 117 = .ok (.istore_n 3, 1) := by decide +kernel
theorem dX10_waysOf_118 : decode cX10_waysOf 118 = .ok (.iinc 2 1, 3) := by decide +kernel
theorem dX10_waysOf_121 : decode cX10_waysOf 121 = .ok (.goto (-105), 3) := by decide +kernel
theorem dX10_waysOf_124 : decode cX10_waysOf 124 = .ok (.iload_n 1, 1) := by decide +kernel
theorem dX10_waysOf_125 : decode cX10_waysOf 125 = .ok (.ireturn, 1) := by decide +kernel
def fX10_waysOf_117 (F : Nat) (t_stones : Int32) (t_told_ : Nat → Int32) (t_touches_ : Nat → Int32) (t_beside_ : Nat → Int32) (k16 : Int32 → Int32 → Int32 → Int32 → Int32 → (Nat → Int32) → (Nat → Int32) → Option (Int32 × Int32 × Int32 × (Nat → Int32) × (Nat → Int32))) (x54 : Int32) (x55 : Int32) (s56 : Int32) (m_t_frees_57 : Int32) (m_t_fewest_58 : Int32) (m_t_slot__59 : Nat → Int32) (m_t_free__60 : Nat → Int32) : Option (Int32 × Int32 × Int32 × (Nat → Int32) × (Nat → Int32)) :=
(jl_let (x55 + Int32.ofInt (1)) fun v61 =>
(k16 x54 v61 s56 m_t_frees_57 m_t_fewest_58 m_t_slot__59 m_t_free__60))
def fX10_waysOf_108 (F : Nat) (t_stones : Int32) (t_told_ : Nat → Int32) (t_touches_ : Nat → Int32) (t_beside_ : Nat → Int32) (k16 : Int32 → Int32 → Int32 → Int32 → Int32 → (Nat → Int32) → (Nat → Int32) → Option (Int32 × Int32 × Int32 × (Nat → Int32) × (Nat → Int32))) (x39 : Int32) (x40 : Int32) (m_t_frees_41 : Int32) (m_t_fewest_42 : Int32) (m_t_slot__43 : Nat → Int32) (m_t_free__44 : Nat → Int32) : Option (Int32 × Int32 × Int32 × (Nat → Int32) × (Nat → Int32)) :=
(if x40 < 0 then
(fX10_waysOf_117 F t_stones t_told_ t_touches_ t_beside_ k16 x39 x40 ((0 : Int32)) m_t_frees_41 m_t_fewest_42 m_t_slot__43 m_t_free__44)
else
(fX10_waysOf_117 F t_stones t_told_ t_touches_ t_beside_ k16 x39 x40 ((1 : Int32)) m_t_frees_41 m_t_fewest_42 m_t_slot__43 m_t_free__44))
def bX10_waysOf_69 (F : Nat) (t_stones : Int32) (t_told_ : Nat → Int32) (t_touches_ : Nat → Int32) (t_beside_ : Nat → Int32) (k16 : Int32 → Int32 → Int32 → Int32 → Int32 → (Nat → Int32) → (Nat → Int32) → Option (Int32 × Int32 × Int32 × (Nat → Int32) × (Nat → Int32))) (k69 : Int32 → Int32 → Int32 → Int32 → (Nat → Int32) → (Nat → Int32) → Option (Int32 × Int32 × Int32 × (Nat → Int32) × (Nat → Int32))) (x31 : Int32) (x32 : Int32) (m_t_frees_33 : Int32) (m_t_fewest_34 : Int32) (m_t_slot__35 : Nat → Int32) (m_t_free__36 : Nat → Int32) : Option (Int32 × Int32 × Int32 × (Nat → Int32) × (Nat → Int32)) :=
(if x32 < 0 then
(fX10_waysOf_108 F t_stones t_told_ t_touches_ t_beside_ k16 x31 x32 m_t_frees_33 m_t_fewest_34 m_t_slot__35 m_t_free__36)
else
(if x32 < 0 ∨ 9 ≤ x32.toNatClampNeg then none else
((fX10_isNext F t_stones t_told_ t_touches_ t_beside_ m_t_slot__35 (m_t_free__36 x32.toNatClampNeg)).bind fun r46 =>
(if r46.1 = 0 then
(if x32 < 0 ∨ 9 ≤ x32.toNatClampNeg then none else
(if (((220 : Int32)) + (m_t_free__36 x32.toNatClampNeg)) < 0 ∨ 240 ≤ (((220 : Int32)) + (m_t_free__36 x32.toNatClampNeg)).toNatClampNeg then none else
(jl_let (upd r46.2 (((220 : Int32)) + (m_t_free__36 x32.toNatClampNeg)).toNatClampNeg ((0 : Int32))) fun g51 =>
(jl_let (x32 + Int32.ofInt (-1)) fun v52 =>
(k69 x31 v52 m_t_frees_33 m_t_fewest_34 g51 m_t_free__36)))))
else
(fX10_waysOf_108 F t_stones t_told_ t_touches_ t_beside_ k16 x31 x32 m_t_frees_33 m_t_fewest_34 r46.2 m_t_free__36)))))
def lX10_waysOf_69 (F : Nat) (t_stones : Int32) (t_told_ : Nat → Int32) (t_touches_ : Nat → Int32) (t_beside_ : Nat → Int32) (k16 : Int32 → Int32 → Int32 → Int32 → Int32 → (Nat → Int32) → (Nat → Int32) → Option (Int32 × Int32 × Int32 × (Nat → Int32) × (Nat → Int32))) (F2 : Nat) (x31 : Int32) (x32 : Int32) (m_t_frees_33 : Int32) (m_t_fewest_34 : Int32) (m_t_slot__35 : Nat → Int32) (m_t_free__36 : Nat → Int32) : Option (Int32 × Int32 × Int32 × (Nat → Int32) × (Nat → Int32)) := jl_loop6 (bX10_waysOf_69 F t_stones t_told_ t_touches_ t_beside_ k16) F2 x31 x32 m_t_frees_33 m_t_fewest_34 m_t_slot__35 m_t_free__36
def fX10_waysOf_63 (F : Nat) (t_stones : Int32) (t_told_ : Nat → Int32) (t_touches_ : Nat → Int32) (t_beside_ : Nat → Int32) (k16 : Int32 → Int32 → Int32 → Int32 → Int32 → (Nat → Int32) → (Nat → Int32) → Option (Int32 × Int32 × Int32 × (Nat → Int32) × (Nat → Int32))) (x24 : Int32) (x25 : Int32) (s26 : Int32) (m_t_frees_27 : Int32) (m_t_fewest_28 : Int32) (m_t_slot__29 : Nat → Int32) (m_t_free__30 : Nat → Int32) : Option (Int32 × Int32 × Int32 × (Nat → Int32) × (Nat → Int32)) :=
(jl_let (x25 + Int32.ofInt (-1)) fun v37 =>
(lX10_waysOf_69 F t_stones t_told_ t_touches_ t_beside_ k16 F x24 v37 m_t_frees_27 s26 m_t_slot__29 m_t_free__30))
def fX10_waysOf_54 (F : Nat) (t_stones : Int32) (t_told_ : Nat → Int32) (t_touches_ : Nat → Int32) (t_beside_ : Nat → Int32) (k16 : Int32 → Int32 → Int32 → Int32 → Int32 → (Nat → Int32) → (Nat → Int32) → Option (Int32 × Int32 × Int32 × (Nat → Int32) × (Nat → Int32))) (x16 : Int32) (x17 : Int32) (x18 : Int32) (m_t_frees_19 : Int32) (m_t_fewest_20 : Int32) (m_t_slot__21 : Nat → Int32) (m_t_free__22 : Nat → Int32) : Option (Int32 × Int32 × Int32 × (Nat → Int32) × (Nat → Int32)) :=
(fX10_waysOf_63 F t_stones t_told_ t_touches_ t_beside_ k16 x16 x17 x18 m_t_frees_19 m_t_fewest_20 m_t_slot__21 m_t_free__22)
def bX10_waysOf_16 (F : Nat) (t_stones : Int32) (t_told_ : Nat → Int32) (t_touches_ : Nat → Int32) (t_beside_ : Nat → Int32)  (k16 : Int32 → Int32 → Int32 → Int32 → Int32 → (Nat → Int32) → (Nat → Int32) → Option (Int32 × Int32 × Int32 × (Nat → Int32) × (Nat → Int32))) (x3 : Int32) (x4 : Int32) (x5 : Int32) (m_t_frees_6 : Int32) (m_t_fewest_7 : Int32) (m_t_slot__8 : Nat → Int32) (m_t_free__9 : Nat → Int32) : Option (Int32 × Int32 × Int32 × (Nat → Int32) × (Nat → Int32)) :=
(if x5 = 0 then
(some (x3, m_t_frees_6, m_t_fewest_7, m_t_slot__8, m_t_free__9))
else
(if x4 = m_t_frees_6 then
(jl_let (x3 + Int32.ofInt (1)) fun v12 =>
((fX10_unlikes F t_stones m_t_slot__8).bind fun r13 =>
(if m_t_fewest_7 < 0 then
(fX10_waysOf_54 F t_stones t_told_ t_touches_ t_beside_ k16 v12 x4 r13 m_t_frees_6 m_t_fewest_7 m_t_slot__8 m_t_free__9)
else
(if m_t_fewest_7 ≤ r13 then
(fX10_waysOf_63 F t_stones t_told_ t_touches_ t_beside_ k16 v12 x4 m_t_fewest_7 m_t_frees_6 m_t_fewest_7 m_t_slot__8 m_t_free__9)
else
(fX10_waysOf_54 F t_stones t_told_ t_touches_ t_beside_ k16 v12 x4 r13 m_t_frees_6 m_t_fewest_7 m_t_slot__8 m_t_free__9)))))
else
(lX10_waysOf_69 F t_stones t_told_ t_touches_ t_beside_ k16 F x3 x4 m_t_frees_6 m_t_fewest_7 m_t_slot__8 m_t_free__9)))
def lX10_waysOf_16 (F : Nat) (t_stones : Int32) (t_told_ : Nat → Int32) (t_touches_ : Nat → Int32) (t_beside_ : Nat → Int32)  (F2 : Nat) (x3 : Int32) (x4 : Int32) (x5 : Int32) (m_t_frees_6 : Int32) (m_t_fewest_7 : Int32) (m_t_slot__8 : Nat → Int32) (m_t_free__9 : Nat → Int32) : Option (Int32 × Int32 × Int32 × (Nat → Int32) × (Nat → Int32)) := jl_loop7 (bX10_waysOf_16 F t_stones t_told_ t_touches_ t_beside_ ) F2 x3 x4 x5 m_t_frees_6 m_t_fewest_7 m_t_slot__8 m_t_free__9
def fX10_waysOf (F : Nat) (t_stones : Int32) (t_frees : Int32) (t_fewest : Int32) (t_told_ : Nat → Int32) (t_touches_ : Nat → Int32) (t_beside_ : Nat → Int32) (t_slot_ : Nat → Int32) (t_free_ : Nat → Int32) : Option (Int32 × Int32 × Int32 × (Nat → Int32) × (Nat → Int32)) :=
((fX10_freed F t_stones t_frees t_slot_ t_free_).bind fun r1 =>
(lX10_waysOf_16 F t_stones t_told_ t_touches_ t_beside_ F ((0 : Int32)) ((0 : Int32)) ((1 : Int32)) r1.1 ((-4 : Int32)) t_slot_ r1.2))
def oX10_waysOf (D : jv_D) (h_t : Nat) (h_t_text : Nat) (h_t_told : Nat) (h_t_touches : Nat) (h_t_has : Nat) (h_t_old : Nat) (h_t_beside : Nat) (h_t_slot : Nat) (h_t_row : Nat) (h_t_free : Nat) (h_t_worth : Nat) (h_t_fore : Nat) (h_t_back : Nat) (h_t_got : Nat) (t_length : Int32) (t_at : Int32) (t_stones : Int32) (t_kept : Int32) (t_done : Int32) (t_rows : Int32) (t_told_ : Nat → Int32) (t_touches_ : Nat → Int32) (t_beside_ : Nat → Int32) (r : Int32 × Int32 × Int32 × (Nat → Int32) × (Nat → Int32)) : va_W := [(h_t, .inr (8, [.int t_length, .ref h_t_text, .int t_at, .ref h_t_told, .ref h_t_touches, .ref h_t_has, .ref h_t_old, .ref h_t_beside, .int t_stones, .ref h_t_slot, .int t_kept, .int t_done, .int t_rows, .ref h_t_row, .ref h_t_free, .int r.2.1, .ref h_t_worth, .ref h_t_fore, .ref h_t_back, .int r.2.2.1, .ref h_t_got])), (h_t_told, jI D 8 t_told_), (h_t_touches, jZ D 32 t_touches_), (h_t_beside, jI D 9 t_beside_), (h_t_slot, jI D 240 r.2.2.2.1), (h_t_free, jI D 9 r.2.2.2.2)]
set_option maxHeartbeats 40000000 in
set_option maxRecDepth 100000 in
theorem mX10_waysOf (l : Launch) (D : jv_D) (F : Nat) (h_t : Nat) (h_t_text : Nat) (h_t_told : Nat) (h_t_touches : Nat) (h_t_has : Nat) (h_t_old : Nat) (h_t_beside : Nat) (h_t_slot : Nat) (h_t_row : Nat) (h_t_free : Nat) (h_t_worth : Nat) (h_t_fore : Nat) (h_t_back : Nat) (h_t_got : Nat) (t_length : Int32) (t_at : Int32) (t_stones : Int32) (t_kept : Int32) (t_done : Int32) (t_rows : Int32) (t_frees : Int32) (t_fewest : Int32) (t_told_ : Nat → Int32) (t_touches_ : Nat → Int32) (t_beside_ : Nat → Int32) (t_slot_ : Nat → Int32) (t_free_ : Nat → Int32) (r : Int32 × Int32 × Int32 × (Nat → Int32) × (Nat → Int32)) (h : fX10_waysOf F t_stones t_frees t_fewest t_told_ t_touches_ t_beside_ t_slot_ t_free_ = some r) : MM l yX10_waysOf (jW yX10_waysOf cX10_waysOf 5 (some .int)) ({ frames := 2, cells := 0, slots := 0, locals := 48 }) D [.ref h_t] [(h_t, .inr (8, [.int t_length, .ref h_t_text, .int t_at, .ref h_t_told, .ref h_t_touches, .ref h_t_has, .ref h_t_old, .ref h_t_beside, .int t_stones, .ref h_t_slot, .int t_kept, .int t_done, .int t_rows, .ref h_t_row, .ref h_t_free, .int t_frees, .ref h_t_worth, .ref h_t_fore, .ref h_t_back, .int t_fewest, .ref h_t_got])), (h_t_told, jI D 8 t_told_), (h_t_touches, jZ D 32 t_touches_), (h_t_beside, jI D 9 t_beside_), (h_t_slot, jI D 240 t_slot_), (h_t_free, jI D 9 t_free_)] (some (.int r.1)) (oX10_waysOf D h_t h_t_text h_t_told h_t_touches h_t_has h_t_old h_t_beside h_t_slot h_t_row h_t_free h_t_worth h_t_fore h_t_back h_t_got t_length t_at t_stones t_kept t_done t_rows t_told_ t_touches_ t_beside_ r) := by
  refine mn_of hpX10_waysOf (Nat.le_of_ble_eq_true rfl) ?_
  intro X hXl C E0 hN
  subst hXl
  replace C : JC D X 5 RX10 cX10_waysOf ({ frames := 2, cells := 0, slots := 0, locals := 48 }) := C
  have E : JE D X 0 0 (some .int) (fun _ : Unit => (some (.int r.1))) (fun _ : Unit => (oX10_waysOf D h_t h_t_text h_t_told h_t_touches h_t_has h_t_old h_t_beside h_t_slot h_t_row h_t_free h_t_worth h_t_fore h_t_back h_t_got t_length t_at t_stones t_kept t_done t_rows t_told_ t_touches_ t_beside_ r)) := E0 0 0 rfl rfl
  clear E0 hN
  show JJ D X 5 0 0 0 [(0, .ref h_t)] [] [(h_t, .inr (8, [.int t_length, .ref h_t_text, .int t_at, .ref h_t_told, .ref h_t_touches, .ref h_t_has, .ref h_t_old, .ref h_t_beside, .int t_stones, .ref h_t_slot, .int t_kept, .int t_done, .int t_rows, .ref h_t_row, .ref h_t_free, .int t_frees, .ref h_t_worth, .ref h_t_fore, .ref h_t_back, .int t_fewest, .ref h_t_got])), (h_t_told, jI D 8 t_told_), (h_t_touches, jZ D 32 t_touches_), (h_t_beside, jI D 9 t_beside_), (h_t_slot, jI D 240 t_slot_), (h_t_free, jI D 9 t_free_)]
  unfold fX10_waysOf at h
  have L16 : ∀ (x3 : Int32) (x4 : Int32) (x5 : Int32) (m_t_frees_6 : Int32) (m_t_fewest_7 : Int32) (m_t_slot__8 : Nat → Int32) (m_t_free__9 : Nat → Int32), lX10_waysOf_16 F t_stones t_told_ t_touches_ t_beside_  F x3 x4 x5 m_t_frees_6 m_t_fewest_7 m_t_slot__8 m_t_free__9 = some r → JJ D X 5 0 0 16 [(0, .ref h_t), (1, .int x3), (2, .int x4), (3, .int x5)] [] [(h_t, .inr (8, [.int t_length, .ref h_t_text, .int t_at, .ref h_t_told, .ref h_t_touches, .ref h_t_has, .ref h_t_old, .ref h_t_beside, .int t_stones, .ref h_t_slot, .int t_kept, .int t_done, .int t_rows, .ref h_t_row, .ref h_t_free, .int m_t_frees_6, .ref h_t_worth, .ref h_t_fore, .ref h_t_back, .int m_t_fewest_7, .ref h_t_got])), (h_t_told, jI D 8 t_told_), (h_t_touches, jZ D 32 t_touches_), (h_t_beside, jI D 9 t_beside_), (h_t_slot, jI D 240 m_t_slot__8), (h_t_free, jI D 9 m_t_free__9)] := by
    intro x3 x4 x5 m_t_frees_6 m_t_fewest_7 m_t_slot__8 m_t_free__9 h
    refine jl_ind7 (fun x3 x4 x5 m_t_frees_6 m_t_fewest_7 m_t_slot__8 m_t_free__9 => JJ D X 5 0 0 16 [(0, .ref h_t), (1, .int x3), (2, .int x4), (3, .int x5)] [] [(h_t, .inr (8, [.int t_length, .ref h_t_text, .int t_at, .ref h_t_told, .ref h_t_touches, .ref h_t_has, .ref h_t_old, .ref h_t_beside, .int t_stones, .ref h_t_slot, .int t_kept, .int t_done, .int t_rows, .ref h_t_row, .ref h_t_free, .int m_t_frees_6, .ref h_t_worth, .ref h_t_fore, .ref h_t_back, .int m_t_fewest_7, .ref h_t_got])), (h_t_told, jI D 8 t_told_), (h_t_touches, jZ D 32 t_touches_), (h_t_beside, jI D 9 t_beside_), (h_t_slot, jI D 240 m_t_slot__8), (h_t_free, jI D 9 m_t_free__9)]) ?_ F x3 x4 x5 m_t_frees_6 m_t_fewest_7 m_t_slot__8 m_t_free__9 h
    clear h x3 x4 x5 m_t_frees_6 m_t_fewest_7 m_t_slot__8 m_t_free__9
    intro k16 i16 x3 x4 x5 m_t_frees_6 m_t_fewest_7 m_t_slot__8 m_t_free__9 h
    replace i16 : ∀ (x3 : Int32) (x4 : Int32) (x5 : Int32) (m_t_frees_6 : Int32) (m_t_fewest_7 : Int32) (m_t_slot__8 : Nat → Int32) (m_t_free__9 : Nat → Int32), k16 x3 x4 x5 m_t_frees_6 m_t_fewest_7 m_t_slot__8 m_t_free__9 = some r → JJ D X 5 0 0 16 [(0, .ref h_t), (1, .int x3), (2, .int x4), (3, .int x5)] [] [(h_t, .inr (8, [.int t_length, .ref h_t_text, .int t_at, .ref h_t_told, .ref h_t_touches, .ref h_t_has, .ref h_t_old, .ref h_t_beside, .int t_stones, .ref h_t_slot, .int t_kept, .int t_done, .int t_rows, .ref h_t_row, .ref h_t_free, .int m_t_frees_6, .ref h_t_worth, .ref h_t_fore, .ref h_t_back, .int m_t_fewest_7, .ref h_t_got])), (h_t_told, jI D 8 t_told_), (h_t_touches, jZ D 32 t_touches_), (h_t_beside, jI D 9 t_beside_), (h_t_slot, jI D 240 m_t_slot__8), (h_t_free, jI D 9 m_t_free__9)] := i16
    show JJ D X 5 0 0 16 [(0, .ref h_t), (1, .int x3), (2, .int x4), (3, .int x5)] [] [(h_t, .inr (8, [.int t_length, .ref h_t_text, .int t_at, .ref h_t_told, .ref h_t_touches, .ref h_t_has, .ref h_t_old, .ref h_t_beside, .int t_stones, .ref h_t_slot, .int t_kept, .int t_done, .int t_rows, .ref h_t_row, .ref h_t_free, .int m_t_frees_6, .ref h_t_worth, .ref h_t_fore, .ref h_t_back, .int m_t_fewest_7, .ref h_t_got])), (h_t_told, jI D 8 t_told_), (h_t_touches, jZ D 32 t_touches_), (h_t_beside, jI D 9 t_beside_), (h_t_slot, jI D 240 m_t_slot__8), (h_t_free, jI D 9 m_t_free__9)]
    unfold bX10_waysOf_16 at h
    have L117 : ∀ (x54 : Int32) (x55 : Int32) (s56 : Int32) (m_t_frees_57 : Int32) (m_t_fewest_58 : Int32) (m_t_slot__59 : Nat → Int32) (m_t_free__60 : Nat → Int32), fX10_waysOf_117 F t_stones t_told_ t_touches_ t_beside_ k16 x54 x55 s56 m_t_frees_57 m_t_fewest_58 m_t_slot__59 m_t_free__60 = some r → JJ D X 5 0 0 117 [(0, .ref h_t), (1, .int x54), (2, .int x55)] [.int s56] [(h_t, .inr (8, [.int t_length, .ref h_t_text, .int t_at, .ref h_t_told, .ref h_t_touches, .ref h_t_has, .ref h_t_old, .ref h_t_beside, .int t_stones, .ref h_t_slot, .int t_kept, .int t_done, .int t_rows, .ref h_t_row, .ref h_t_free, .int m_t_frees_57, .ref h_t_worth, .ref h_t_fore, .ref h_t_back, .int m_t_fewest_58, .ref h_t_got])), (h_t_told, jI D 8 t_told_), (h_t_touches, jZ D 32 t_touches_), (h_t_beside, jI D 9 t_beside_), (h_t_slot, jI D 240 m_t_slot__59), (h_t_free, jI D 9 m_t_free__60)] := by
      intro x54 x55 s56 m_t_frees_57 m_t_fewest_58 m_t_slot__59 m_t_free__60 h
      unfold fX10_waysOf_117 at h
      refine j_istore_nC C dX10_waysOf_117 rfl (lv' := [(3, .int s56), (0, .ref h_t), (1, .int x54), (2, .int x55)]) (by decide) rfl ?_
      refine j_iinc C dX10_waysOf_118 3 rfl (lv' := fun v61 => [(2, .int v61), (3, .int s56), (0, .ref h_t), (1, .int x54)]) (by decide) (fun _ => rfl) h (fun v61 h => ?_)
      refine j_goto C dX10_waysOf_121 (tgt := 16) (by decide) ?_
      refine j_sub (lv' := [(0, .ref h_t), (1, .int x54), (2, .int v61), (3, .int s56)]) [2, 3, 0, 1] rfl ?_
      exact i16 x54 v61 s56 m_t_frees_57 m_t_fewest_58 m_t_slot__59 m_t_free__60 h
    have L108 : ∀ (x39 : Int32) (x40 : Int32) (m_t_frees_41 : Int32) (m_t_fewest_42 : Int32) (m_t_slot__43 : Nat → Int32) (m_t_free__44 : Nat → Int32), fX10_waysOf_108 F t_stones t_told_ t_touches_ t_beside_ k16 x39 x40 m_t_frees_41 m_t_fewest_42 m_t_slot__43 m_t_free__44 = some r → JJ D X 5 0 0 108 [(0, .ref h_t), (1, .int x39), (2, .int x40)] [] [(h_t, .inr (8, [.int t_length, .ref h_t_text, .int t_at, .ref h_t_told, .ref h_t_touches, .ref h_t_has, .ref h_t_old, .ref h_t_beside, .int t_stones, .ref h_t_slot, .int t_kept, .int t_done, .int t_rows, .ref h_t_row, .ref h_t_free, .int m_t_frees_41, .ref h_t_worth, .ref h_t_fore, .ref h_t_back, .int m_t_fewest_42, .ref h_t_got])), (h_t_told, jI D 8 t_told_), (h_t_touches, jZ D 32 t_touches_), (h_t_beside, jI D 9 t_beside_), (h_t_slot, jI D 240 m_t_slot__43), (h_t_free, jI D 9 m_t_free__44)] := by
      intro x39 x40 m_t_frees_41 m_t_fewest_42 m_t_slot__43 m_t_free__44 h
      unfold fX10_waysOf_108 at h
      refine j_iload_n C dX10_waysOf_108 rfl 2 rfl ?_
      refine j_if_lt C (tgt := 116) dX10_waysOf_109 (by decide) h (fun c53 h => ?_) (fun c53 h => ?_)
      · refine j_iconst C dX10_waysOf_116 (v := (0 : Int32)) (by decide) ?_
        refine j_sub (lv' := [(0, .ref h_t), (1, .int x39), (2, .int x40)]) [0, 1, 2] rfl ?_
        exact L117 x39 x40 ((0 : Int32)) m_t_frees_41 m_t_fewest_42 m_t_slot__43 m_t_free__44 h
      · refine j_iconst C dX10_waysOf_112 (v := (1 : Int32)) (by decide) ?_
        refine j_goto C dX10_waysOf_113 (tgt := 117) (by decide) ?_
        refine j_sub (lv' := [(0, .ref h_t), (1, .int x39), (2, .int x40)]) [0, 1, 2] rfl ?_
        exact L117 x39 x40 ((1 : Int32)) m_t_frees_41 m_t_fewest_42 m_t_slot__43 m_t_free__44 h
    have L69 : ∀ (x31 : Int32) (x32 : Int32) (m_t_frees_33 : Int32) (m_t_fewest_34 : Int32) (m_t_slot__35 : Nat → Int32) (m_t_free__36 : Nat → Int32), lX10_waysOf_69 F t_stones t_told_ t_touches_ t_beside_ k16 F x31 x32 m_t_frees_33 m_t_fewest_34 m_t_slot__35 m_t_free__36 = some r → JJ D X 5 0 0 69 [(0, .ref h_t), (1, .int x31), (2, .int x32)] [] [(h_t, .inr (8, [.int t_length, .ref h_t_text, .int t_at, .ref h_t_told, .ref h_t_touches, .ref h_t_has, .ref h_t_old, .ref h_t_beside, .int t_stones, .ref h_t_slot, .int t_kept, .int t_done, .int t_rows, .ref h_t_row, .ref h_t_free, .int m_t_frees_33, .ref h_t_worth, .ref h_t_fore, .ref h_t_back, .int m_t_fewest_34, .ref h_t_got])), (h_t_told, jI D 8 t_told_), (h_t_touches, jZ D 32 t_touches_), (h_t_beside, jI D 9 t_beside_), (h_t_slot, jI D 240 m_t_slot__35), (h_t_free, jI D 9 m_t_free__36)] := by
      intro x31 x32 m_t_frees_33 m_t_fewest_34 m_t_slot__35 m_t_free__36 h
      refine jl_ind6 (fun x31 x32 m_t_frees_33 m_t_fewest_34 m_t_slot__35 m_t_free__36 => JJ D X 5 0 0 69 [(0, .ref h_t), (1, .int x31), (2, .int x32)] [] [(h_t, .inr (8, [.int t_length, .ref h_t_text, .int t_at, .ref h_t_told, .ref h_t_touches, .ref h_t_has, .ref h_t_old, .ref h_t_beside, .int t_stones, .ref h_t_slot, .int t_kept, .int t_done, .int t_rows, .ref h_t_row, .ref h_t_free, .int m_t_frees_33, .ref h_t_worth, .ref h_t_fore, .ref h_t_back, .int m_t_fewest_34, .ref h_t_got])), (h_t_told, jI D 8 t_told_), (h_t_touches, jZ D 32 t_touches_), (h_t_beside, jI D 9 t_beside_), (h_t_slot, jI D 240 m_t_slot__35), (h_t_free, jI D 9 m_t_free__36)]) ?_ F x31 x32 m_t_frees_33 m_t_fewest_34 m_t_slot__35 m_t_free__36 h
      clear h x31 x32 m_t_frees_33 m_t_fewest_34 m_t_slot__35 m_t_free__36
      intro k69 i69 x31 x32 m_t_frees_33 m_t_fewest_34 m_t_slot__35 m_t_free__36 h
      replace i69 : ∀ (x31 : Int32) (x32 : Int32) (m_t_frees_33 : Int32) (m_t_fewest_34 : Int32) (m_t_slot__35 : Nat → Int32) (m_t_free__36 : Nat → Int32), k69 x31 x32 m_t_frees_33 m_t_fewest_34 m_t_slot__35 m_t_free__36 = some r → JJ D X 5 0 0 69 [(0, .ref h_t), (1, .int x31), (2, .int x32)] [] [(h_t, .inr (8, [.int t_length, .ref h_t_text, .int t_at, .ref h_t_told, .ref h_t_touches, .ref h_t_has, .ref h_t_old, .ref h_t_beside, .int t_stones, .ref h_t_slot, .int t_kept, .int t_done, .int t_rows, .ref h_t_row, .ref h_t_free, .int m_t_frees_33, .ref h_t_worth, .ref h_t_fore, .ref h_t_back, .int m_t_fewest_34, .ref h_t_got])), (h_t_told, jI D 8 t_told_), (h_t_touches, jZ D 32 t_touches_), (h_t_beside, jI D 9 t_beside_), (h_t_slot, jI D 240 m_t_slot__35), (h_t_free, jI D 9 m_t_free__36)] := i69
      show JJ D X 5 0 0 69 [(0, .ref h_t), (1, .int x31), (2, .int x32)] [] [(h_t, .inr (8, [.int t_length, .ref h_t_text, .int t_at, .ref h_t_told, .ref h_t_touches, .ref h_t_has, .ref h_t_old, .ref h_t_beside, .int t_stones, .ref h_t_slot, .int t_kept, .int t_done, .int t_rows, .ref h_t_row, .ref h_t_free, .int m_t_frees_33, .ref h_t_worth, .ref h_t_fore, .ref h_t_back, .int m_t_fewest_34, .ref h_t_got])), (h_t_told, jI D 8 t_told_), (h_t_touches, jZ D 32 t_touches_), (h_t_beside, jI D 9 t_beside_), (h_t_slot, jI D 240 m_t_slot__35), (h_t_free, jI D 9 m_t_free__36)]
      unfold bX10_waysOf_69 at h
      refine j_iload_n C dX10_waysOf_69 rfl 2 rfl ?_
      refine j_if_lt C (tgt := 108) dX10_waysOf_70 (by decide) h (fun c38 h => ?_) (fun c38 h => ?_)
      · refine j_sub (lv' := [(0, .ref h_t), (1, .int x31), (2, .int x32)]) [0, 1, 2] rfl ?_
        exact L108 x31 x32 m_t_frees_33 m_t_fewest_34 m_t_slot__35 m_t_free__36 h
      · refine j_aload_n C dX10_waysOf_73 rfl 0 rfl ?_
        refine j_aload_n C dX10_waysOf_74 rfl 0 rfl ?_
        refine j_get C ibX10 (ci := 8) 0 rfl rfl 14 (by decide) bfX10_36 (v := .ref h_t_free) rfl dX10_waysOf_75 ?_
        refine j_iload_n C dX10_waysOf_78 rfl 2 rfl ?_
        refine jl_inb h (fun b45 h => ?_)
        refine j_iald C 5 rfl b45 dX10_waysOf_79 ?_
        obtain ⟨r46, q47, h⟩ := jl_bind h
        refine j_cV1 C (mX10_isNext (jlaunch X) D F h_t h_t_text h_t_told h_t_touches h_t_has h_t_old h_t_beside h_t_slot h_t_row h_t_free h_t_worth h_t_fore h_t_back h_t_got t_length t_at t_stones t_kept t_done t_rows m_t_frees_33 m_t_fewest_34 t_told_ t_touches_ t_beside_ m_t_slot__35 (m_t_free__36 x32.toNatClampNeg) r46 q47) bmX10_159 biX10_isNext bsX10_isNext bzX10 bcX10_isNext rfl hX10_isNext (rest := []) rfl (jroom_of rfl) 0 (ci := 8) rfl rfl rfl [0, 1, 2, 3, 4] [5] [1, 2, 3, 4, 5, 0] (wr := [(h_t_free, jI D 9 m_t_free__36)]) (ws2 := [(h_t, .inr (8, [.int t_length, .ref h_t_text, .int t_at, .ref h_t_told, .ref h_t_touches, .ref h_t_has, .ref h_t_old, .ref h_t_beside, .int t_stones, .ref h_t_slot, .int t_kept, .int t_done, .int t_rows, .ref h_t_row, .ref h_t_free, .int m_t_frees_33, .ref h_t_worth, .ref h_t_fore, .ref h_t_back, .int m_t_fewest_34, .ref h_t_got])), (h_t_told, jI D 8 t_told_), (h_t_touches, jZ D 32 t_touches_), (h_t_beside, jI D 9 t_beside_), (h_t_slot, jI D 240 r46.2), (h_t_free, jI D 9 m_t_free__36)]) rfl rfl rfl rfl rfl (Nat.le_of_ble_eq_true rfl) dX10_waysOf_80 ?_
        refine j_if_ne C (tgt := 108) dX10_waysOf_83 (by decide) h (fun c48 h => ?_) (fun c48 h => ?_)
        · refine j_aload_n C dX10_waysOf_86 rfl 0 rfl ?_
          refine j_get C ibX10 (ci := 8) 0 rfl rfl 9 (by decide) bfX10_30 (v := .ref h_t_slot) rfl dX10_waysOf_87 ?_
          refine j_sipush C dX10_waysOf_90 (v := (220 : Int32)) (by decide) ?_
          refine j_aload_n C dX10_waysOf_93 rfl 0 rfl ?_
          refine j_get C ibX10 (ci := 8) 0 rfl rfl 14 (by decide) bfX10_36 (v := .ref h_t_free) rfl dX10_waysOf_94 ?_
          refine j_iload_n C dX10_waysOf_97 rfl 2 rfl ?_
          refine jl_inb h (fun b49 h => ?_)
          refine j_iald C 5 rfl b49 dX10_waysOf_98 ?_
          refine j_iadd C dX10_waysOf_99 ?_
          refine j_iconst C dX10_waysOf_100 (v := (0 : Int32)) (by decide) ?_
          refine jl_inb h (fun b50 h => ?_)
          refine j_iast C 4 rfl b50 dX10_waysOf_101 (ws' := fun g51 => [(h_t, .inr (8, [.int t_length, .ref h_t_text, .int t_at, .ref h_t_told, .ref h_t_touches, .ref h_t_has, .ref h_t_old, .ref h_t_beside, .int t_stones, .ref h_t_slot, .int t_kept, .int t_done, .int t_rows, .ref h_t_row, .ref h_t_free, .int m_t_frees_33, .ref h_t_worth, .ref h_t_fore, .ref h_t_back, .int m_t_fewest_34, .ref h_t_got])), (h_t_told, jI D 8 t_told_), (h_t_touches, jZ D 32 t_touches_), (h_t_beside, jI D 9 t_beside_), (h_t_slot, jI D 240 g51), (h_t_free, jI D 9 m_t_free__36)]) (fun _ => rfl) h (fun g51 h => ?_)
          refine j_iinc C dX10_waysOf_102 2 rfl (lv' := fun v52 => [(2, .int v52), (0, .ref h_t), (1, .int x31)]) (by decide) (fun _ => rfl) h (fun v52 h => ?_)
          refine j_goto C dX10_waysOf_105 (tgt := 69) (by decide) ?_
          refine j_sub (lv' := [(0, .ref h_t), (1, .int x31), (2, .int v52)]) [1, 2, 0] rfl ?_
          exact i69 x31 v52 m_t_frees_33 m_t_fewest_34 g51 m_t_free__36 h
        · refine j_sub (lv' := [(0, .ref h_t), (1, .int x31), (2, .int x32)]) [0, 1, 2] rfl ?_
          exact L108 x31 x32 m_t_frees_33 m_t_fewest_34 r46.2 m_t_free__36 h
    have L63 : ∀ (x24 : Int32) (x25 : Int32) (s26 : Int32) (m_t_frees_27 : Int32) (m_t_fewest_28 : Int32) (m_t_slot__29 : Nat → Int32) (m_t_free__30 : Nat → Int32), fX10_waysOf_63 F t_stones t_told_ t_touches_ t_beside_ k16 x24 x25 s26 m_t_frees_27 m_t_fewest_28 m_t_slot__29 m_t_free__30 = some r → JJ D X 5 0 0 63 [(0, .ref h_t), (1, .int x24), (2, .int x25)] [.int s26, .ref h_t] [(h_t, .inr (8, [.int t_length, .ref h_t_text, .int t_at, .ref h_t_told, .ref h_t_touches, .ref h_t_has, .ref h_t_old, .ref h_t_beside, .int t_stones, .ref h_t_slot, .int t_kept, .int t_done, .int t_rows, .ref h_t_row, .ref h_t_free, .int m_t_frees_27, .ref h_t_worth, .ref h_t_fore, .ref h_t_back, .int m_t_fewest_28, .ref h_t_got])), (h_t_told, jI D 8 t_told_), (h_t_touches, jZ D 32 t_touches_), (h_t_beside, jI D 9 t_beside_), (h_t_slot, jI D 240 m_t_slot__29), (h_t_free, jI D 9 m_t_free__30)] := by
      intro x24 x25 s26 m_t_frees_27 m_t_fewest_28 m_t_slot__29 m_t_free__30 h
      unfold fX10_waysOf_63 at h
      refine j_put C ibX10 tyX10 tyX10_ok nmX10 (ci := 8) 0 rfl rfl 19 (by decide) bfX10_153 rfl rfl rfl (Nat.le_of_ble_eq_true rfl) dX10_waysOf_63 (ws' := [(h_t, .inr (8, [.int t_length, .ref h_t_text, .int t_at, .ref h_t_told, .ref h_t_touches, .ref h_t_has, .ref h_t_old, .ref h_t_beside, .int t_stones, .ref h_t_slot, .int t_kept, .int t_done, .int t_rows, .ref h_t_row, .ref h_t_free, .int m_t_frees_27, .ref h_t_worth, .ref h_t_fore, .ref h_t_back, .int s26, .ref h_t_got])), (h_t_told, jI D 8 t_told_), (h_t_touches, jZ D 32 t_touches_), (h_t_beside, jI D 9 t_beside_), (h_t_slot, jI D 240 m_t_slot__29), (h_t_free, jI D 9 m_t_free__30)]) rfl ?_
      refine j_iinc C dX10_waysOf_66 2 rfl (lv' := fun v37 => [(2, .int v37), (0, .ref h_t), (1, .int x24)]) (by decide) (fun _ => rfl) h (fun v37 h => ?_)
      refine j_sub (lv' := [(0, .ref h_t), (1, .int x24), (2, .int v37)]) [1, 2, 0] rfl ?_
      exact L69 x24 v37 m_t_frees_27 s26 m_t_slot__29 m_t_free__30 h
    have L54 : ∀ (x16 : Int32) (x17 : Int32) (x18 : Int32) (m_t_frees_19 : Int32) (m_t_fewest_20 : Int32) (m_t_slot__21 : Nat → Int32) (m_t_free__22 : Nat → Int32), fX10_waysOf_54 F t_stones t_told_ t_touches_ t_beside_ k16 x16 x17 x18 m_t_frees_19 m_t_fewest_20 m_t_slot__21 m_t_free__22 = some r → JJ D X 5 0 0 54 [(0, .ref h_t), (1, .int x16), (2, .int x17), (4, .int x18)] [.ref h_t] [(h_t, .inr (8, [.int t_length, .ref h_t_text, .int t_at, .ref h_t_told, .ref h_t_touches, .ref h_t_has, .ref h_t_old, .ref h_t_beside, .int t_stones, .ref h_t_slot, .int t_kept, .int t_done, .int t_rows, .ref h_t_row, .ref h_t_free, .int m_t_frees_19, .ref h_t_worth, .ref h_t_fore, .ref h_t_back, .int m_t_fewest_20, .ref h_t_got])), (h_t_told, jI D 8 t_told_), (h_t_touches, jZ D 32 t_touches_), (h_t_beside, jI D 9 t_beside_), (h_t_slot, jI D 240 m_t_slot__21), (h_t_free, jI D 9 m_t_free__22)] := by
      intro x16 x17 x18 m_t_frees_19 m_t_fewest_20 m_t_slot__21 m_t_free__22 h
      unfold fX10_waysOf_54 at h
      refine j_iload C dX10_waysOf_54 3 rfl ?_
      refine j_goto C dX10_waysOf_56 (tgt := 63) (by decide) ?_
      refine j_sub (lv' := [(0, .ref h_t), (1, .int x16), (2, .int x17)]) [0, 1, 2] rfl ?_
      exact L63 x16 x17 x18 m_t_frees_19 m_t_fewest_20 m_t_slot__21 m_t_free__22 h
    refine j_iload_n C dX10_waysOf_16 rfl 3 rfl ?_
    refine j_if_eq C (tgt := 124) dX10_waysOf_17 (by decide) h (fun c10 h => ?_) (fun c10 h => ?_)
    · refine j_iload_n C dX10_waysOf_124 rfl 1 rfl ?_
      exact j_iretR C (r := r) (rtf := fun r => (some (.int r.1))) (wff := fun r => (oX10_waysOf D h_t h_t_text h_t_told h_t_touches h_t_has h_t_old h_t_beside h_t_slot h_t_row h_t_free h_t_worth h_t_fore h_t_back h_t_got t_length t_at t_stones t_kept t_done t_rows t_told_ t_touches_ t_beside_ r)) E h rfl rfl dX10_waysOf_125
    · refine j_iload_n C dX10_waysOf_20 rfl 2 rfl ?_
      refine j_aload_n C dX10_waysOf_21 rfl 0 rfl ?_
      refine j_get C ibX10 (ci := 8) 0 rfl rfl 15 (by decide) bfX10_147 (v := .int m_t_frees_6) rfl dX10_waysOf_22 ?_
      refine j_icmp_ne C (tgt := 69) dX10_waysOf_25 (by decide) h (fun c11 h => ?_) (fun c11 h => ?_)
      · refine j_iinc C dX10_waysOf_28 1 rfl (lv' := fun v12 => [(1, .int v12), (0, .ref h_t), (2, .int x4), (3, .int x5)]) (by decide) (fun _ => rfl) h (fun v12 h => ?_)
        refine j_aload_n C dX10_waysOf_31 rfl 1 rfl ?_
        obtain ⟨r13, q14, h⟩ := jl_bind h
        refine j_cV1 C (mX10_unlikes (jlaunch X) D F h_t h_t_text h_t_told h_t_touches h_t_has h_t_old h_t_beside h_t_slot h_t_row h_t_free h_t_worth h_t_fore h_t_back h_t_got t_length t_at t_stones t_kept t_done t_rows m_t_frees_6 m_t_fewest_7 m_t_slot__8 r13 q14) bmX10_156 biX10_unlikes bsX10_unlikes bzX10 bcX10_unlikes rfl hX10_unlikes (rest := []) rfl (jroom_of rfl) 0 (ci := 8) rfl rfl rfl [0, 4] [1, 2, 3, 5] [4, 0, 1, 2, 5, 3] (wr := [(h_t_told, jI D 8 t_told_), (h_t_touches, jZ D 32 t_touches_), (h_t_beside, jI D 9 t_beside_), (h_t_free, jI D 9 m_t_free__9)]) (ws2 := [(h_t, .inr (8, [.int t_length, .ref h_t_text, .int t_at, .ref h_t_told, .ref h_t_touches, .ref h_t_has, .ref h_t_old, .ref h_t_beside, .int t_stones, .ref h_t_slot, .int t_kept, .int t_done, .int t_rows, .ref h_t_row, .ref h_t_free, .int m_t_frees_6, .ref h_t_worth, .ref h_t_fore, .ref h_t_back, .int m_t_fewest_7, .ref h_t_got])), (h_t_told, jI D 8 t_told_), (h_t_touches, jZ D 32 t_touches_), (h_t_beside, jI D 9 t_beside_), (h_t_slot, jI D 240 m_t_slot__8), (h_t_free, jI D 9 m_t_free__9)]) rfl rfl rfl rfl rfl (Nat.le_of_ble_eq_true rfl) dX10_waysOf_32 ?_
        refine j_istoreC C dX10_waysOf_35 (lv' := [(4, .int r13), (1, .int v12), (0, .ref h_t), (2, .int x4), (3, .int x5)]) (by decide) rfl ?_
        refine j_aload_n C dX10_waysOf_37 rfl 2 rfl ?_
        refine j_aload_n C dX10_waysOf_38 rfl 2 rfl ?_
        refine j_get C ibX10 (ci := 8) 0 rfl rfl 19 (by decide) bfX10_153 (v := .int m_t_fewest_7) rfl dX10_waysOf_39 ?_
        refine j_if_lt C (tgt := 54) dX10_waysOf_42 (by decide) h (fun c15 h => ?_) (fun c15 h => ?_)
        · refine j_sub (lv' := [(0, .ref h_t), (1, .int v12), (2, .int x4), (4, .int r13)]) [2, 1, 3, 0] rfl ?_
          exact L54 v12 x4 r13 m_t_frees_6 m_t_fewest_7 m_t_slot__8 m_t_free__9 h
        · refine j_iload C dX10_waysOf_45 0 rfl ?_
          refine j_aload_n C dX10_waysOf_47 rfl 2 rfl ?_
          refine j_get C ibX10 (ci := 8) 0 rfl rfl 19 (by decide) bfX10_153 (v := .int m_t_fewest_7) rfl dX10_waysOf_48 ?_
          refine j_icmp_ge C (tgt := 59) dX10_waysOf_51 (by decide) h (fun c23 h => ?_) (fun c23 h => ?_)
          · refine j_aload_n C dX10_waysOf_59 rfl 2 rfl ?_
            refine j_get C ibX10 (ci := 8) 0 rfl rfl 19 (by decide) bfX10_153 (v := .int m_t_fewest_7) rfl dX10_waysOf_60 ?_
            refine j_sub (lv' := [(0, .ref h_t), (1, .int v12), (2, .int x4)]) [2, 1, 3] rfl ?_
            exact L63 v12 x4 m_t_fewest_7 m_t_frees_6 m_t_fewest_7 m_t_slot__8 m_t_free__9 h
          · refine j_sub (lv' := [(0, .ref h_t), (1, .int v12), (2, .int x4), (4, .int r13)]) [2, 1, 3, 0] rfl ?_
            exact L54 v12 x4 r13 m_t_frees_6 m_t_fewest_7 m_t_slot__8 m_t_free__9 h
      · refine j_sub (lv' := [(0, .ref h_t), (1, .int x3), (2, .int x4)]) [0, 1, 2] rfl ?_
        exact L69 x3 x4 m_t_frees_6 m_t_fewest_7 m_t_slot__8 m_t_free__9 h
  refine j_aload_n C dX10_waysOf_0 rfl 0 rfl ?_
  obtain ⟨r1, q2, h⟩ := jl_bind h
  refine j_cV0 C (mX10_freed (jlaunch X) D F h_t h_t_text h_t_told h_t_touches h_t_has h_t_old h_t_beside h_t_slot h_t_row h_t_free h_t_worth h_t_fore h_t_back h_t_got t_length t_at t_stones t_kept t_done t_rows t_frees t_fewest t_slot_ t_free_ r1 q2) bmX10_150 biX10_freed bsX10_freed bzX10 bcX10_freed rfl hX10_freed (rest := []) rfl (jroom_of rfl) 0 (ci := 8) rfl rfl rfl [0, 4, 5] [1, 2, 3] [3, 0, 1, 2, 4, 5] (wr := [(h_t_told, jI D 8 t_told_), (h_t_touches, jZ D 32 t_touches_), (h_t_beside, jI D 9 t_beside_)]) (ws2 := [(h_t, .inr (8, [.int t_length, .ref h_t_text, .int t_at, .ref h_t_told, .ref h_t_touches, .ref h_t_has, .ref h_t_old, .ref h_t_beside, .int t_stones, .ref h_t_slot, .int t_kept, .int t_done, .int t_rows, .ref h_t_row, .ref h_t_free, .int r1.1, .ref h_t_worth, .ref h_t_fore, .ref h_t_back, .int t_fewest, .ref h_t_got])), (h_t_told, jI D 8 t_told_), (h_t_touches, jZ D 32 t_touches_), (h_t_beside, jI D 9 t_beside_), (h_t_slot, jI D 240 t_slot_), (h_t_free, jI D 9 r1.2)]) rfl rfl rfl rfl rfl (Nat.le_of_ble_eq_true rfl) dX10_waysOf_1 ?_
  refine j_aload_n C dX10_waysOf_4 rfl 0 rfl ?_
  refine j_bipush C dX10_waysOf_5 (v := (-4 : Int32)) (by decide) ?_
  refine j_put C ibX10 tyX10 tyX10_ok nmX10 (ci := 8) 0 rfl rfl 19 (by decide) bfX10_153 rfl rfl rfl (Nat.le_of_ble_eq_true rfl) dX10_waysOf_7 (ws' := [(h_t, .inr (8, [.int t_length, .ref h_t_text, .int t_at, .ref h_t_told, .ref h_t_touches, .ref h_t_has, .ref h_t_old, .ref h_t_beside, .int t_stones, .ref h_t_slot, .int t_kept, .int t_done, .int t_rows, .ref h_t_row, .ref h_t_free, .int r1.1, .ref h_t_worth, .ref h_t_fore, .ref h_t_back, .int ((-4 : Int32)), .ref h_t_got])), (h_t_told, jI D 8 t_told_), (h_t_touches, jZ D 32 t_touches_), (h_t_beside, jI D 9 t_beside_), (h_t_slot, jI D 240 t_slot_), (h_t_free, jI D 9 r1.2)]) rfl ?_
  refine j_iconst C dX10_waysOf_10 (v := (0 : Int32)) (by decide) ?_
  refine j_istore_nC C dX10_waysOf_11 rfl (lv' := [(1, .int ((0 : Int32))), (0, .ref h_t)]) (by decide) rfl ?_
  refine j_iconst C dX10_waysOf_12 (v := (0 : Int32)) (by decide) ?_
  refine j_istore_nC C dX10_waysOf_13 rfl (lv' := [(2, .int ((0 : Int32))), (1, .int ((0 : Int32))), (0, .ref h_t)]) (by decide) rfl ?_
  refine j_iconst C dX10_waysOf_14 (v := (1 : Int32)) (by decide) ?_
  refine j_istore_nC C dX10_waysOf_15 rfl (lv' := [(3, .int ((1 : Int32))), (2, .int ((0 : Int32))), (1, .int ((0 : Int32))), (0, .ref h_t)]) (by decide) rfl ?_
  refine j_sub (lv' := [(0, .ref h_t), (1, .int ((0 : Int32))), (2, .int ((0 : Int32))), (3, .int ((1 : Int32)))]) [3, 2, 1, 0] rfl ?_
  exact L16 ((0 : Int32)) ((0 : Int32)) ((1 : Int32)) r1.1 ((-4 : Int32)) t_slot_ r1.2 h
theorem dX10_ways_0 : decode cX10_ways 0 = .ok (.aload_n 0, 1) := by decide +kernel
theorem dX10_ways_1 : decode cX10_ways 1 = .ok (.iconst 0, 1) := by decide +kernel
theorem dX10_ways_2 : decode cX10_ways 2 = .ok (.bipush 11, 2) := by decide +kernel
theorem dX10_ways_4 : decode cX10_ways 4 = .ok (.invokevirtual 130, 3) := by decide +kernel
theorem dX10_ways_7 : decode cX10_ways 7 = .ok (.aload_n 0, 1) := by decide +kernel
theorem dX10_ways_8 : decode cX10_ways 8 = .ok (.invokevirtual 165, 3) := by decide +kernel
theorem dX10_ways_11 : decode cX10_ways 11 = .ok (.ireturn, 1) := by decide +kernel
def fX10_ways (F : Nat) (t_stones : Int32) (t_frees : Int32) (t_fewest : Int32) (t_told_ : Nat → Int32) (t_touches_ : Nat → Int32) (t_beside_ : Nat → Int32) (t_slot_ : Nat → Int32) (t_free_ : Nat → Int32) : Option (Int32 × Int32 × Int32 × (Nat → Int32) × (Nat → Int32)) :=
((fX10_copies F t_slot_ ((0 : Int32)) ((11 : Int32))).bind fun r1 =>
((fX10_waysOf F t_stones t_frees t_fewest t_told_ t_touches_ t_beside_ r1 t_free_).bind fun r3 =>
(some (r3.1, r3.2.1, r3.2.2.1, r3.2.2.2.1, r3.2.2.2.2))))
def oX10_ways (D : jv_D) (h_t : Nat) (h_t_text : Nat) (h_t_told : Nat) (h_t_touches : Nat) (h_t_has : Nat) (h_t_old : Nat) (h_t_beside : Nat) (h_t_slot : Nat) (h_t_row : Nat) (h_t_free : Nat) (h_t_worth : Nat) (h_t_fore : Nat) (h_t_back : Nat) (h_t_got : Nat) (t_length : Int32) (t_at : Int32) (t_stones : Int32) (t_kept : Int32) (t_done : Int32) (t_rows : Int32) (t_told_ : Nat → Int32) (t_touches_ : Nat → Int32) (t_beside_ : Nat → Int32) (r : Int32 × Int32 × Int32 × (Nat → Int32) × (Nat → Int32)) : va_W := [(h_t, .inr (8, [.int t_length, .ref h_t_text, .int t_at, .ref h_t_told, .ref h_t_touches, .ref h_t_has, .ref h_t_old, .ref h_t_beside, .int t_stones, .ref h_t_slot, .int t_kept, .int t_done, .int t_rows, .ref h_t_row, .ref h_t_free, .int r.2.1, .ref h_t_worth, .ref h_t_fore, .ref h_t_back, .int r.2.2.1, .ref h_t_got])), (h_t_told, jI D 8 t_told_), (h_t_touches, jZ D 32 t_touches_), (h_t_beside, jI D 9 t_beside_), (h_t_slot, jI D 240 r.2.2.2.1), (h_t_free, jI D 9 r.2.2.2.2)]
set_option maxHeartbeats 40000000 in
set_option maxRecDepth 100000 in
theorem mX10_ways (l : Launch) (D : jv_D) (F : Nat) (h_t : Nat) (h_t_text : Nat) (h_t_told : Nat) (h_t_touches : Nat) (h_t_has : Nat) (h_t_old : Nat) (h_t_beside : Nat) (h_t_slot : Nat) (h_t_row : Nat) (h_t_free : Nat) (h_t_worth : Nat) (h_t_fore : Nat) (h_t_back : Nat) (h_t_got : Nat) (t_length : Int32) (t_at : Int32) (t_stones : Int32) (t_kept : Int32) (t_done : Int32) (t_rows : Int32) (t_frees : Int32) (t_fewest : Int32) (t_told_ : Nat → Int32) (t_touches_ : Nat → Int32) (t_beside_ : Nat → Int32) (t_slot_ : Nat → Int32) (t_free_ : Nat → Int32) (r : Int32 × Int32 × Int32 × (Nat → Int32) × (Nat → Int32)) (h : fX10_ways F t_stones t_frees t_fewest t_told_ t_touches_ t_beside_ t_slot_ t_free_ = some r) : MM l yX10_ways (jW yX10_ways cX10_ways 1 (some .int)) ({ frames := 3, cells := 0, slots := 0, locals := 72 }) D [.ref h_t] [(h_t, .inr (8, [.int t_length, .ref h_t_text, .int t_at, .ref h_t_told, .ref h_t_touches, .ref h_t_has, .ref h_t_old, .ref h_t_beside, .int t_stones, .ref h_t_slot, .int t_kept, .int t_done, .int t_rows, .ref h_t_row, .ref h_t_free, .int t_frees, .ref h_t_worth, .ref h_t_fore, .ref h_t_back, .int t_fewest, .ref h_t_got])), (h_t_told, jI D 8 t_told_), (h_t_touches, jZ D 32 t_touches_), (h_t_beside, jI D 9 t_beside_), (h_t_slot, jI D 240 t_slot_), (h_t_free, jI D 9 t_free_)] (some (.int r.1)) (oX10_ways D h_t h_t_text h_t_told h_t_touches h_t_has h_t_old h_t_beside h_t_slot h_t_row h_t_free h_t_worth h_t_fore h_t_back h_t_got t_length t_at t_stones t_kept t_done t_rows t_told_ t_touches_ t_beside_ r) := by
  refine mn_of hpX10_ways (Nat.le_of_ble_eq_true rfl) ?_
  intro X hXl C E0 hN
  subst hXl
  replace C : JC D X 1 RX10 cX10_ways ({ frames := 3, cells := 0, slots := 0, locals := 72 }) := C
  have E : JE D X 0 0 (some .int) (fun _ : Unit => (some (.int r.1))) (fun _ : Unit => (oX10_ways D h_t h_t_text h_t_told h_t_touches h_t_has h_t_old h_t_beside h_t_slot h_t_row h_t_free h_t_worth h_t_fore h_t_back h_t_got t_length t_at t_stones t_kept t_done t_rows t_told_ t_touches_ t_beside_ r)) := E0 0 0 rfl rfl
  clear E0 hN
  show JJ D X 1 0 0 0 [(0, .ref h_t)] [] [(h_t, .inr (8, [.int t_length, .ref h_t_text, .int t_at, .ref h_t_told, .ref h_t_touches, .ref h_t_has, .ref h_t_old, .ref h_t_beside, .int t_stones, .ref h_t_slot, .int t_kept, .int t_done, .int t_rows, .ref h_t_row, .ref h_t_free, .int t_frees, .ref h_t_worth, .ref h_t_fore, .ref h_t_back, .int t_fewest, .ref h_t_got])), (h_t_told, jI D 8 t_told_), (h_t_touches, jZ D 32 t_touches_), (h_t_beside, jI D 9 t_beside_), (h_t_slot, jI D 240 t_slot_), (h_t_free, jI D 9 t_free_)]
  unfold fX10_ways at h
  refine j_aload_n C dX10_ways_0 rfl 0 rfl ?_
  refine j_iconst C dX10_ways_1 (v := (0 : Int32)) (by decide) ?_
  refine j_bipush C dX10_ways_2 (v := (11 : Int32)) (by decide) ?_
  obtain ⟨r1, q2, h⟩ := jl_bind h
  refine j_cV0 C (mX10_copies (jlaunch X) D F h_t h_t_text h_t_told h_t_touches h_t_has h_t_old h_t_beside h_t_slot h_t_row h_t_free h_t_worth h_t_fore h_t_back h_t_got t_length t_at t_stones t_kept t_done t_rows t_frees t_fewest t_slot_ ((0 : Int32)) ((11 : Int32)) r1 q2) bmX10_130 biX10_copies bsX10_copies bzX10 bcX10_copies rfl hX10_copies (rest := []) rfl (jroom_of rfl) 0 (ci := 8) rfl rfl rfl [0, 4] [1, 2, 3, 5] [4, 0, 1, 2, 5, 3] (wr := [(h_t_told, jI D 8 t_told_), (h_t_touches, jZ D 32 t_touches_), (h_t_beside, jI D 9 t_beside_), (h_t_free, jI D 9 t_free_)]) (ws2 := [(h_t, .inr (8, [.int t_length, .ref h_t_text, .int t_at, .ref h_t_told, .ref h_t_touches, .ref h_t_has, .ref h_t_old, .ref h_t_beside, .int t_stones, .ref h_t_slot, .int t_kept, .int t_done, .int t_rows, .ref h_t_row, .ref h_t_free, .int t_frees, .ref h_t_worth, .ref h_t_fore, .ref h_t_back, .int t_fewest, .ref h_t_got])), (h_t_told, jI D 8 t_told_), (h_t_touches, jZ D 32 t_touches_), (h_t_beside, jI D 9 t_beside_), (h_t_slot, jI D 240 r1), (h_t_free, jI D 9 t_free_)]) rfl rfl rfl rfl rfl (Nat.le_of_ble_eq_true rfl) dX10_ways_4 ?_
  refine j_aload_n C dX10_ways_7 rfl 0 rfl ?_
  obtain ⟨r3, q4, h⟩ := jl_bind h
  refine j_cV1 C (mX10_waysOf (jlaunch X) D F h_t h_t_text h_t_told h_t_touches h_t_has h_t_old h_t_beside h_t_slot h_t_row h_t_free h_t_worth h_t_fore h_t_back h_t_got t_length t_at t_stones t_kept t_done t_rows t_frees t_fewest t_told_ t_touches_ t_beside_ r1 t_free_ r3 q4) bmX10_165 biX10_waysOf bsX10_waysOf bzX10 bcX10_waysOf rfl hX10_waysOf (rest := []) rfl (jroom_of rfl) 0 (ci := 8) rfl rfl rfl [0, 1, 2, 3, 4, 5] [] [0, 1, 2, 3, 4, 5] (wr := []) (ws2 := [(h_t, .inr (8, [.int t_length, .ref h_t_text, .int t_at, .ref h_t_told, .ref h_t_touches, .ref h_t_has, .ref h_t_old, .ref h_t_beside, .int t_stones, .ref h_t_slot, .int t_kept, .int t_done, .int t_rows, .ref h_t_row, .ref h_t_free, .int r3.2.1, .ref h_t_worth, .ref h_t_fore, .ref h_t_back, .int r3.2.2.1, .ref h_t_got])), (h_t_told, jI D 8 t_told_), (h_t_touches, jZ D 32 t_touches_), (h_t_beside, jI D 9 t_beside_), (h_t_slot, jI D 240 r3.2.2.2.1), (h_t_free, jI D 9 r3.2.2.2.2)]) rfl rfl rfl rfl rfl (Nat.le_of_ble_eq_true rfl) dX10_ways_8 ?_
  exact j_iretR C (r := r) (rtf := fun r => (some (.int r.1))) (wff := fun r => (oX10_ways D h_t h_t_text h_t_told h_t_touches h_t_has h_t_old h_t_beside h_t_slot h_t_row h_t_free h_t_worth h_t_fore h_t_back h_t_got t_length t_at t_stones t_kept t_done t_rows t_told_ t_touches_ t_beside_ r)) E h rfl rfl dX10_ways_11
theorem dX10_fewest_0 : decode cX10_fewest 0 = .ok (.aload_n 0, 1) := by decide +kernel
theorem dX10_fewest_1 : decode cX10_fewest 1 = .ok (.iconst 0, 1) := by decide +kernel
theorem dX10_fewest_2 : decode cX10_fewest 2 = .ok (.bipush 11, 2) := by decide +kernel
theorem dX10_fewest_4 : decode cX10_fewest 4 = .ok (.invokevirtual 130, 3) := by decide +kernel
theorem dX10_fewest_7 : decode cX10_fewest 7 = .ok (.aload_n 0, 1) := by decide +kernel
theorem dX10_fewest_8 : decode cX10_fewest 8 = .ok (.invokevirtual 165, 3) := by decide +kernel
theorem dX10_fewest_11 : decode cX10_fewest 11 = .ok (.ifCond .ne 8, 3) := by decide +kernel
theorem dX10_fewest_14 : decode cX10_fewest 14 = .ok (.bipush (-4), 2) := by decide +kernel
theorem dX10_fewest_16 : decode cX10_fewest 16 = .ok (.goto 7, 3) := by decide +kernel
theorem dX10_fewest_19 : decode cX10_fewest 19 = .ok (.aload_n 0, 1) := by decide +kernel
theorem dX10_fewest_20 : decode cX10_fewest 20 = .ok (.getfield 153, 3) := by decide +kernel
theorem dX10_fewest_23 : decode cX10_fewest 23 = .ok (.ireturn, 1) := by decide +kernel
def fX10_fewest (F : Nat) (t_stones : Int32) (t_frees : Int32) (t_fewest : Int32) (t_told_ : Nat → Int32) (t_touches_ : Nat → Int32) (t_beside_ : Nat → Int32) (t_slot_ : Nat → Int32) (t_free_ : Nat → Int32) : Option (Int32 × Int32 × Int32 × (Nat → Int32) × (Nat → Int32)) :=
((fX10_copies F t_slot_ ((0 : Int32)) ((11 : Int32))).bind fun r1 =>
((fX10_waysOf F t_stones t_frees t_fewest t_told_ t_touches_ t_beside_ r1 t_free_).bind fun r3 =>
(if r3.1 = 0 then
(some ((-4 : Int32), r3.2.1, r3.2.2.1, r3.2.2.2.1, r3.2.2.2.2))
else
(some (r3.2.2.1, r3.2.1, r3.2.2.1, r3.2.2.2.1, r3.2.2.2.2)))))
def oX10_fewest (D : jv_D) (h_t : Nat) (h_t_text : Nat) (h_t_told : Nat) (h_t_touches : Nat) (h_t_has : Nat) (h_t_old : Nat) (h_t_beside : Nat) (h_t_slot : Nat) (h_t_row : Nat) (h_t_free : Nat) (h_t_worth : Nat) (h_t_fore : Nat) (h_t_back : Nat) (h_t_got : Nat) (t_length : Int32) (t_at : Int32) (t_stones : Int32) (t_kept : Int32) (t_done : Int32) (t_rows : Int32) (t_told_ : Nat → Int32) (t_touches_ : Nat → Int32) (t_beside_ : Nat → Int32) (r : Int32 × Int32 × Int32 × (Nat → Int32) × (Nat → Int32)) : va_W := [(h_t, .inr (8, [.int t_length, .ref h_t_text, .int t_at, .ref h_t_told, .ref h_t_touches, .ref h_t_has, .ref h_t_old, .ref h_t_beside, .int t_stones, .ref h_t_slot, .int t_kept, .int t_done, .int t_rows, .ref h_t_row, .ref h_t_free, .int r.2.1, .ref h_t_worth, .ref h_t_fore, .ref h_t_back, .int r.2.2.1, .ref h_t_got])), (h_t_told, jI D 8 t_told_), (h_t_touches, jZ D 32 t_touches_), (h_t_beside, jI D 9 t_beside_), (h_t_slot, jI D 240 r.2.2.2.1), (h_t_free, jI D 9 r.2.2.2.2)]
set_option maxHeartbeats 40000000 in
set_option maxRecDepth 100000 in
theorem mX10_fewest (l : Launch) (D : jv_D) (F : Nat) (h_t : Nat) (h_t_text : Nat) (h_t_told : Nat) (h_t_touches : Nat) (h_t_has : Nat) (h_t_old : Nat) (h_t_beside : Nat) (h_t_slot : Nat) (h_t_row : Nat) (h_t_free : Nat) (h_t_worth : Nat) (h_t_fore : Nat) (h_t_back : Nat) (h_t_got : Nat) (t_length : Int32) (t_at : Int32) (t_stones : Int32) (t_kept : Int32) (t_done : Int32) (t_rows : Int32) (t_frees : Int32) (t_fewest : Int32) (t_told_ : Nat → Int32) (t_touches_ : Nat → Int32) (t_beside_ : Nat → Int32) (t_slot_ : Nat → Int32) (t_free_ : Nat → Int32) (r : Int32 × Int32 × Int32 × (Nat → Int32) × (Nat → Int32)) (h : fX10_fewest F t_stones t_frees t_fewest t_told_ t_touches_ t_beside_ t_slot_ t_free_ = some r) : MM l yX10_fewest (jW yX10_fewest cX10_fewest 1 (some .int)) ({ frames := 3, cells := 0, slots := 0, locals := 72 }) D [.ref h_t] [(h_t, .inr (8, [.int t_length, .ref h_t_text, .int t_at, .ref h_t_told, .ref h_t_touches, .ref h_t_has, .ref h_t_old, .ref h_t_beside, .int t_stones, .ref h_t_slot, .int t_kept, .int t_done, .int t_rows, .ref h_t_row, .ref h_t_free, .int t_frees, .ref h_t_worth, .ref h_t_fore, .ref h_t_back, .int t_fewest, .ref h_t_got])), (h_t_told, jI D 8 t_told_), (h_t_touches, jZ D 32 t_touches_), (h_t_beside, jI D 9 t_beside_), (h_t_slot, jI D 240 t_slot_), (h_t_free, jI D 9 t_free_)] (some (.int r.1)) (oX10_fewest D h_t h_t_text h_t_told h_t_touches h_t_has h_t_old h_t_beside h_t_slot h_t_row h_t_free h_t_worth h_t_fore h_t_back h_t_got t_length t_at t_stones t_kept t_done t_rows t_told_ t_touches_ t_beside_ r) := by
  refine mn_of hpX10_fewest (Nat.le_of_ble_eq_true rfl) ?_
  intro X hXl C E0 hN
  subst hXl
  replace C : JC D X 1 RX10 cX10_fewest ({ frames := 3, cells := 0, slots := 0, locals := 72 }) := C
  have E : JE D X 0 0 (some .int) (fun _ : Unit => (some (.int r.1))) (fun _ : Unit => (oX10_fewest D h_t h_t_text h_t_told h_t_touches h_t_has h_t_old h_t_beside h_t_slot h_t_row h_t_free h_t_worth h_t_fore h_t_back h_t_got t_length t_at t_stones t_kept t_done t_rows t_told_ t_touches_ t_beside_ r)) := E0 0 0 rfl rfl
  clear E0 hN
  show JJ D X 1 0 0 0 [(0, .ref h_t)] [] [(h_t, .inr (8, [.int t_length, .ref h_t_text, .int t_at, .ref h_t_told, .ref h_t_touches, .ref h_t_has, .ref h_t_old, .ref h_t_beside, .int t_stones, .ref h_t_slot, .int t_kept, .int t_done, .int t_rows, .ref h_t_row, .ref h_t_free, .int t_frees, .ref h_t_worth, .ref h_t_fore, .ref h_t_back, .int t_fewest, .ref h_t_got])), (h_t_told, jI D 8 t_told_), (h_t_touches, jZ D 32 t_touches_), (h_t_beside, jI D 9 t_beside_), (h_t_slot, jI D 240 t_slot_), (h_t_free, jI D 9 t_free_)]
  unfold fX10_fewest at h
  refine j_aload_n C dX10_fewest_0 rfl 0 rfl ?_
  refine j_iconst C dX10_fewest_1 (v := (0 : Int32)) (by decide) ?_
  refine j_bipush C dX10_fewest_2 (v := (11 : Int32)) (by decide) ?_
  obtain ⟨r1, q2, h⟩ := jl_bind h
  refine j_cV0 C (mX10_copies (jlaunch X) D F h_t h_t_text h_t_told h_t_touches h_t_has h_t_old h_t_beside h_t_slot h_t_row h_t_free h_t_worth h_t_fore h_t_back h_t_got t_length t_at t_stones t_kept t_done t_rows t_frees t_fewest t_slot_ ((0 : Int32)) ((11 : Int32)) r1 q2) bmX10_130 biX10_copies bsX10_copies bzX10 bcX10_copies rfl hX10_copies (rest := []) rfl (jroom_of rfl) 0 (ci := 8) rfl rfl rfl [0, 4] [1, 2, 3, 5] [4, 0, 1, 2, 5, 3] (wr := [(h_t_told, jI D 8 t_told_), (h_t_touches, jZ D 32 t_touches_), (h_t_beside, jI D 9 t_beside_), (h_t_free, jI D 9 t_free_)]) (ws2 := [(h_t, .inr (8, [.int t_length, .ref h_t_text, .int t_at, .ref h_t_told, .ref h_t_touches, .ref h_t_has, .ref h_t_old, .ref h_t_beside, .int t_stones, .ref h_t_slot, .int t_kept, .int t_done, .int t_rows, .ref h_t_row, .ref h_t_free, .int t_frees, .ref h_t_worth, .ref h_t_fore, .ref h_t_back, .int t_fewest, .ref h_t_got])), (h_t_told, jI D 8 t_told_), (h_t_touches, jZ D 32 t_touches_), (h_t_beside, jI D 9 t_beside_), (h_t_slot, jI D 240 r1), (h_t_free, jI D 9 t_free_)]) rfl rfl rfl rfl rfl (Nat.le_of_ble_eq_true rfl) dX10_fewest_4 ?_
  refine j_aload_n C dX10_fewest_7 rfl 0 rfl ?_
  obtain ⟨r3, q4, h⟩ := jl_bind h
  refine j_cV1 C (mX10_waysOf (jlaunch X) D F h_t h_t_text h_t_told h_t_touches h_t_has h_t_old h_t_beside h_t_slot h_t_row h_t_free h_t_worth h_t_fore h_t_back h_t_got t_length t_at t_stones t_kept t_done t_rows t_frees t_fewest t_told_ t_touches_ t_beside_ r1 t_free_ r3 q4) bmX10_165 biX10_waysOf bsX10_waysOf bzX10 bcX10_waysOf rfl hX10_waysOf (rest := []) rfl (jroom_of rfl) 0 (ci := 8) rfl rfl rfl [0, 1, 2, 3, 4, 5] [] [0, 1, 2, 3, 4, 5] (wr := []) (ws2 := [(h_t, .inr (8, [.int t_length, .ref h_t_text, .int t_at, .ref h_t_told, .ref h_t_touches, .ref h_t_has, .ref h_t_old, .ref h_t_beside, .int t_stones, .ref h_t_slot, .int t_kept, .int t_done, .int t_rows, .ref h_t_row, .ref h_t_free, .int r3.2.1, .ref h_t_worth, .ref h_t_fore, .ref h_t_back, .int r3.2.2.1, .ref h_t_got])), (h_t_told, jI D 8 t_told_), (h_t_touches, jZ D 32 t_touches_), (h_t_beside, jI D 9 t_beside_), (h_t_slot, jI D 240 r3.2.2.2.1), (h_t_free, jI D 9 r3.2.2.2.2)]) rfl rfl rfl rfl rfl (Nat.le_of_ble_eq_true rfl) dX10_fewest_8 ?_
  refine j_if_ne C (tgt := 19) dX10_fewest_11 (by decide) h (fun c5 h => ?_) (fun c5 h => ?_)
  · refine j_bipush C dX10_fewest_14 (v := (-4 : Int32)) (by decide) ?_
    refine j_goto C dX10_fewest_16 (tgt := 23) (by decide) ?_
    exact j_iretR C (r := r) (rtf := fun r => (some (.int r.1))) (wff := fun r => (oX10_fewest D h_t h_t_text h_t_told h_t_touches h_t_has h_t_old h_t_beside h_t_slot h_t_row h_t_free h_t_worth h_t_fore h_t_back h_t_got t_length t_at t_stones t_kept t_done t_rows t_told_ t_touches_ t_beside_ r)) E h rfl rfl dX10_fewest_23
  · refine j_aload_n C dX10_fewest_19 rfl 0 rfl ?_
    refine j_get C ibX10 (ci := 8) 0 rfl rfl 19 (by decide) bfX10_153 (v := .int r3.2.2.1) rfl dX10_fewest_20 ?_
    exact j_iretR C (r := r) (rtf := fun r => (some (.int r.1))) (wff := fun r => (oX10_fewest D h_t h_t_text h_t_told h_t_touches h_t_has h_t_old h_t_beside h_t_slot h_t_row h_t_free h_t_worth h_t_fore h_t_back h_t_got t_length t_at t_stones t_kept t_done t_rows t_told_ t_touches_ t_beside_ r)) E h rfl rfl dX10_fewest_23
theorem dX10_without_0 : decode cX10_without 0 = .ok (.aload_n 0, 1) := by decide +kernel
theorem dX10_without_1 : decode cX10_without 1 = .ok (.iconst 0, 1) := by decide +kernel
theorem dX10_without_2 : decode cX10_without 2 = .ok (.bipush 11, 2) := by decide +kernel
theorem dX10_without_4 : decode cX10_without 4 = .ok (.invokevirtual 130, 3) := by decide +kernel
theorem dX10_without_7 : decode cX10_without 7 = .ok (.iconst 0, 1) := by decide +kernel
theorem dX10_without_8 : decode cX10_without 8 = .ok (.istore_n 2, 1) := by decide +kernel
theorem dX10_without_9 : decode cX10_without 9 = .ok (.iload_n 2, 1) := by decide +kernel
theorem dX10_without_10 : decode cX10_without 10 = .ok (.aload_n 0, 1) := by decide +kernel
theorem dX10_without_11 : decode cX10_without 11 = .ok (.getfield 91, 3) := by decide +kernel
theorem dX10_without_14 : decode cX10_without 14 = .ok (.if_icmp .ge 42, 3) := by decide +kernel
theorem dX10_without_17 : decode cX10_without 17 = .ok (.aload_n 0, 1) := by decide +kernel
theorem dX10_without_18 : decode cX10_without 18 = .ok (.getfield 30, 3) := by decide +kernel
theorem dX10_without_21 : decode cX10_without 21 = .ok (.sipush 220, 3) := by decide +kernel
theorem dX10_without_24 : decode cX10_without 24 = .ok (.iload_n 2, 1) := by decide +kernel
theorem dX10_without_25 : decode cX10_without 25 = .ok (.iadd, 1) := by decide +kernel
theorem dX10_without_26 : decode cX10_without 26 = .ok (.iload_n 1, 1) := by decide +kernel
theorem dX10_without_27 : decode cX10_without 27 = .ok (.iload_n 2, 1) := by decide +kernel
theorem dX10_without_28 : decode cX10_without 28 = .ok (.ishr, 1) := by decide +kernel
theorem dX10_without_29 : decode cX10_without 29 = .ok (.iconst 1, 1) := by decide +kernel
theorem dX10_without_30 : decode cX10_without 30 = .ok (.iand, 1) := by decide +kernel
theorem dX10_without_31 : decode cX10_without 31 = .ok (.iconst 1, 1) := by decide +kernel
theorem dX10_without_32 : decode cX10_without 32 = .ok (.if_icmp .ne 7, 3) := by decide +kernel
theorem dX10_without_35 : decode cX10_without 35 = .ok (.iconst 0, 1) := by decide +kernel
theorem dX10_without_36 : decode cX10_without 36 = .ok (.goto 13, 3) := by decide +kernel
theorem dX10_without_39 : decode cX10_without 39 = .ok (.aload_n 0, 1) := by decide +kernel
theorem dX10_without_40 : decode cX10_without 40 = .ok (.getfield 30, 3) := by decide +kernel
theorem dX10_without_43 : decode cX10_without 43 = .ok (.sipush 220, 3) := by decide +kernel
theorem dX10_without_46 : decode cX10_without 46 = .ok (.iload_n 2, 1) := by decide +kernel
theorem dX10_without_47 : decode cX10_without 47 = .ok (.iadd, 1) := by decide +kernel
theorem dX10_without_48 : decode cX10_without 48 = .ok (.iaload, 1) := by decide +kernel
theorem dX10_without_49 : decode cX10_without 49 = .ok (.iastore, 1) := by decide +kernel
theorem dX10_without_50 : decode cX10_without 50 = .ok (.iinc 2 1, 3) := by decide +kernel
theorem dX10_without_53 : decode cX10_without 53 = .ok (.goto (-44), 3) := by decide +kernel
theorem dX10_without_56 : decode cX10_without 56 = .ok (.aload_n 0, 1) := by decide +kernel
theorem dX10_without_57 : decode cX10_without 57 = .ok (.invokevirtual 165, 3) := by decide +kernel
theorem dX10_without_60 : decode cX10_without 60 = .ok (.ireturn, 1) := by decide +kernel
def fX10_without_49 (F : Nat) (t_stones : Int32) (t_told_ : Nat → Int32) (t_touches_ : Nat → Int32) (t_beside_ : Nat → Int32) (p1 : Int32) (k9 : Int32 → Int32 → Int32 → (Nat → Int32) → (Nat → Int32) → Option (Int32 × Int32 × Int32 × (Nat → Int32) × (Nat → Int32))) (x12 : Int32) (s13 : Int32) (s14 : Int32) (m_t_frees_15 : Int32) (m_t_fewest_16 : Int32) (m_t_slot__17 : Nat → Int32) (m_t_free__18 : Nat → Int32) : Option (Int32 × Int32 × Int32 × (Nat → Int32) × (Nat → Int32)) :=
(if s14 < 0 ∨ 240 ≤ s14.toNatClampNeg then none else
(jl_let (upd m_t_slot__17 s14.toNatClampNeg s13) fun g21 =>
(jl_let (x12 + Int32.ofInt (1)) fun v22 =>
(k9 v22 m_t_frees_15 m_t_fewest_16 g21 m_t_free__18))))
def bX10_without_9 (F : Nat) (t_stones : Int32) (t_told_ : Nat → Int32) (t_touches_ : Nat → Int32) (t_beside_ : Nat → Int32) (p1 : Int32)  (k9 : Int32 → Int32 → Int32 → (Nat → Int32) → (Nat → Int32) → Option (Int32 × Int32 × Int32 × (Nat → Int32) × (Nat → Int32))) (x3 : Int32) (m_t_frees_4 : Int32) (m_t_fewest_5 : Int32) (m_t_slot__6 : Nat → Int32) (m_t_free__7 : Nat → Int32) : Option (Int32 × Int32 × Int32 × (Nat → Int32) × (Nat → Int32)) :=
(if t_stones ≤ x3 then
((fX10_waysOf F t_stones m_t_frees_4 m_t_fewest_5 t_told_ t_touches_ t_beside_ m_t_slot__6 m_t_free__7).bind fun r9 =>
(some (r9.1, r9.2.1, r9.2.2.1, r9.2.2.2.1, r9.2.2.2.2)))
else
(if ((p1 >>> (x3 &&& 31)) &&& ((1 : Int32))) = ((1 : Int32)) then
(fX10_without_49 F t_stones t_told_ t_touches_ t_beside_ p1 k9 x3 ((0 : Int32)) (((220 : Int32)) + x3) m_t_frees_4 m_t_fewest_5 m_t_slot__6 m_t_free__7)
else
(if (((220 : Int32)) + x3) < 0 ∨ 240 ≤ (((220 : Int32)) + x3).toNatClampNeg then none else
(fX10_without_49 F t_stones t_told_ t_touches_ t_beside_ p1 k9 x3 (m_t_slot__6 (((220 : Int32)) + x3).toNatClampNeg) (((220 : Int32)) + x3) m_t_frees_4 m_t_fewest_5 m_t_slot__6 m_t_free__7))))
def lX10_without_9 (F : Nat) (t_stones : Int32) (t_told_ : Nat → Int32) (t_touches_ : Nat → Int32) (t_beside_ : Nat → Int32) (p1 : Int32)  (F2 : Nat) (x3 : Int32) (m_t_frees_4 : Int32) (m_t_fewest_5 : Int32) (m_t_slot__6 : Nat → Int32) (m_t_free__7 : Nat → Int32) : Option (Int32 × Int32 × Int32 × (Nat → Int32) × (Nat → Int32)) := jl_loop5 (bX10_without_9 F t_stones t_told_ t_touches_ t_beside_ p1 ) F2 x3 m_t_frees_4 m_t_fewest_5 m_t_slot__6 m_t_free__7
def fX10_without (F : Nat) (t_stones : Int32) (t_frees : Int32) (t_fewest : Int32) (t_told_ : Nat → Int32) (t_touches_ : Nat → Int32) (t_beside_ : Nat → Int32) (t_slot_ : Nat → Int32) (t_free_ : Nat → Int32) (p1 : Int32) : Option (Int32 × Int32 × Int32 × (Nat → Int32) × (Nat → Int32)) :=
((fX10_copies F t_slot_ ((0 : Int32)) ((11 : Int32))).bind fun r1 =>
(lX10_without_9 F t_stones t_told_ t_touches_ t_beside_ p1 F ((0 : Int32)) t_frees t_fewest r1 t_free_))
def oX10_without (D : jv_D) (h_t : Nat) (h_t_text : Nat) (h_t_told : Nat) (h_t_touches : Nat) (h_t_has : Nat) (h_t_old : Nat) (h_t_beside : Nat) (h_t_slot : Nat) (h_t_row : Nat) (h_t_free : Nat) (h_t_worth : Nat) (h_t_fore : Nat) (h_t_back : Nat) (h_t_got : Nat) (t_length : Int32) (t_at : Int32) (t_stones : Int32) (t_kept : Int32) (t_done : Int32) (t_rows : Int32) (t_told_ : Nat → Int32) (t_touches_ : Nat → Int32) (t_beside_ : Nat → Int32) (r : Int32 × Int32 × Int32 × (Nat → Int32) × (Nat → Int32)) : va_W := [(h_t, .inr (8, [.int t_length, .ref h_t_text, .int t_at, .ref h_t_told, .ref h_t_touches, .ref h_t_has, .ref h_t_old, .ref h_t_beside, .int t_stones, .ref h_t_slot, .int t_kept, .int t_done, .int t_rows, .ref h_t_row, .ref h_t_free, .int r.2.1, .ref h_t_worth, .ref h_t_fore, .ref h_t_back, .int r.2.2.1, .ref h_t_got])), (h_t_told, jI D 8 t_told_), (h_t_touches, jZ D 32 t_touches_), (h_t_beside, jI D 9 t_beside_), (h_t_slot, jI D 240 r.2.2.2.1), (h_t_free, jI D 9 r.2.2.2.2)]
set_option maxHeartbeats 40000000 in
set_option maxRecDepth 100000 in
theorem mX10_without (l : Launch) (D : jv_D) (F : Nat) (h_t : Nat) (h_t_text : Nat) (h_t_told : Nat) (h_t_touches : Nat) (h_t_has : Nat) (h_t_old : Nat) (h_t_beside : Nat) (h_t_slot : Nat) (h_t_row : Nat) (h_t_free : Nat) (h_t_worth : Nat) (h_t_fore : Nat) (h_t_back : Nat) (h_t_got : Nat) (t_length : Int32) (t_at : Int32) (t_stones : Int32) (t_kept : Int32) (t_done : Int32) (t_rows : Int32) (t_frees : Int32) (t_fewest : Int32) (t_told_ : Nat → Int32) (t_touches_ : Nat → Int32) (t_beside_ : Nat → Int32) (t_slot_ : Nat → Int32) (t_free_ : Nat → Int32) (p1 : Int32) (r : Int32 × Int32 × Int32 × (Nat → Int32) × (Nat → Int32)) (h : fX10_without F t_stones t_frees t_fewest t_told_ t_touches_ t_beside_ t_slot_ t_free_ p1 = some r) : MM l yX10_without (jW yX10_without cX10_without 3 (some .int)) ({ frames := 3, cells := 0, slots := 0, locals := 72 }) D [.ref h_t, .int p1] [(h_t, .inr (8, [.int t_length, .ref h_t_text, .int t_at, .ref h_t_told, .ref h_t_touches, .ref h_t_has, .ref h_t_old, .ref h_t_beside, .int t_stones, .ref h_t_slot, .int t_kept, .int t_done, .int t_rows, .ref h_t_row, .ref h_t_free, .int t_frees, .ref h_t_worth, .ref h_t_fore, .ref h_t_back, .int t_fewest, .ref h_t_got])), (h_t_told, jI D 8 t_told_), (h_t_touches, jZ D 32 t_touches_), (h_t_beside, jI D 9 t_beside_), (h_t_slot, jI D 240 t_slot_), (h_t_free, jI D 9 t_free_)] (some (.int r.1)) (oX10_without D h_t h_t_text h_t_told h_t_touches h_t_has h_t_old h_t_beside h_t_slot h_t_row h_t_free h_t_worth h_t_fore h_t_back h_t_got t_length t_at t_stones t_kept t_done t_rows t_told_ t_touches_ t_beside_ r) := by
  refine mn_of hpX10_without (Nat.le_of_ble_eq_true rfl) ?_
  intro X hXl C E0 hN
  subst hXl
  replace C : JC D X 3 RX10 cX10_without ({ frames := 3, cells := 0, slots := 0, locals := 72 }) := C
  have E : JE D X 0 0 (some .int) (fun _ : Unit => (some (.int r.1))) (fun _ : Unit => (oX10_without D h_t h_t_text h_t_told h_t_touches h_t_has h_t_old h_t_beside h_t_slot h_t_row h_t_free h_t_worth h_t_fore h_t_back h_t_got t_length t_at t_stones t_kept t_done t_rows t_told_ t_touches_ t_beside_ r)) := E0 0 0 rfl rfl
  clear E0 hN
  show JJ D X 3 0 0 0 [(0, .ref h_t), (1, .int p1)] [] [(h_t, .inr (8, [.int t_length, .ref h_t_text, .int t_at, .ref h_t_told, .ref h_t_touches, .ref h_t_has, .ref h_t_old, .ref h_t_beside, .int t_stones, .ref h_t_slot, .int t_kept, .int t_done, .int t_rows, .ref h_t_row, .ref h_t_free, .int t_frees, .ref h_t_worth, .ref h_t_fore, .ref h_t_back, .int t_fewest, .ref h_t_got])), (h_t_told, jI D 8 t_told_), (h_t_touches, jZ D 32 t_touches_), (h_t_beside, jI D 9 t_beside_), (h_t_slot, jI D 240 t_slot_), (h_t_free, jI D 9 t_free_)]
  unfold fX10_without at h
  have L9 : ∀ (x3 : Int32) (m_t_frees_4 : Int32) (m_t_fewest_5 : Int32) (m_t_slot__6 : Nat → Int32) (m_t_free__7 : Nat → Int32), lX10_without_9 F t_stones t_told_ t_touches_ t_beside_ p1  F x3 m_t_frees_4 m_t_fewest_5 m_t_slot__6 m_t_free__7 = some r → JJ D X 3 0 0 9 [(0, .ref h_t), (1, .int p1), (2, .int x3)] [] [(h_t, .inr (8, [.int t_length, .ref h_t_text, .int t_at, .ref h_t_told, .ref h_t_touches, .ref h_t_has, .ref h_t_old, .ref h_t_beside, .int t_stones, .ref h_t_slot, .int t_kept, .int t_done, .int t_rows, .ref h_t_row, .ref h_t_free, .int m_t_frees_4, .ref h_t_worth, .ref h_t_fore, .ref h_t_back, .int m_t_fewest_5, .ref h_t_got])), (h_t_told, jI D 8 t_told_), (h_t_touches, jZ D 32 t_touches_), (h_t_beside, jI D 9 t_beside_), (h_t_slot, jI D 240 m_t_slot__6), (h_t_free, jI D 9 m_t_free__7)] := by
    intro x3 m_t_frees_4 m_t_fewest_5 m_t_slot__6 m_t_free__7 h
    refine jl_ind5 (fun x3 m_t_frees_4 m_t_fewest_5 m_t_slot__6 m_t_free__7 => JJ D X 3 0 0 9 [(0, .ref h_t), (1, .int p1), (2, .int x3)] [] [(h_t, .inr (8, [.int t_length, .ref h_t_text, .int t_at, .ref h_t_told, .ref h_t_touches, .ref h_t_has, .ref h_t_old, .ref h_t_beside, .int t_stones, .ref h_t_slot, .int t_kept, .int t_done, .int t_rows, .ref h_t_row, .ref h_t_free, .int m_t_frees_4, .ref h_t_worth, .ref h_t_fore, .ref h_t_back, .int m_t_fewest_5, .ref h_t_got])), (h_t_told, jI D 8 t_told_), (h_t_touches, jZ D 32 t_touches_), (h_t_beside, jI D 9 t_beside_), (h_t_slot, jI D 240 m_t_slot__6), (h_t_free, jI D 9 m_t_free__7)]) ?_ F x3 m_t_frees_4 m_t_fewest_5 m_t_slot__6 m_t_free__7 h
    clear h x3 m_t_frees_4 m_t_fewest_5 m_t_slot__6 m_t_free__7
    intro k9 i9 x3 m_t_frees_4 m_t_fewest_5 m_t_slot__6 m_t_free__7 h
    replace i9 : ∀ (x3 : Int32) (m_t_frees_4 : Int32) (m_t_fewest_5 : Int32) (m_t_slot__6 : Nat → Int32) (m_t_free__7 : Nat → Int32), k9 x3 m_t_frees_4 m_t_fewest_5 m_t_slot__6 m_t_free__7 = some r → JJ D X 3 0 0 9 [(0, .ref h_t), (1, .int p1), (2, .int x3)] [] [(h_t, .inr (8, [.int t_length, .ref h_t_text, .int t_at, .ref h_t_told, .ref h_t_touches, .ref h_t_has, .ref h_t_old, .ref h_t_beside, .int t_stones, .ref h_t_slot, .int t_kept, .int t_done, .int t_rows, .ref h_t_row, .ref h_t_free, .int m_t_frees_4, .ref h_t_worth, .ref h_t_fore, .ref h_t_back, .int m_t_fewest_5, .ref h_t_got])), (h_t_told, jI D 8 t_told_), (h_t_touches, jZ D 32 t_touches_), (h_t_beside, jI D 9 t_beside_), (h_t_slot, jI D 240 m_t_slot__6), (h_t_free, jI D 9 m_t_free__7)] := i9
    show JJ D X 3 0 0 9 [(0, .ref h_t), (1, .int p1), (2, .int x3)] [] [(h_t, .inr (8, [.int t_length, .ref h_t_text, .int t_at, .ref h_t_told, .ref h_t_touches, .ref h_t_has, .ref h_t_old, .ref h_t_beside, .int t_stones, .ref h_t_slot, .int t_kept, .int t_done, .int t_rows, .ref h_t_row, .ref h_t_free, .int m_t_frees_4, .ref h_t_worth, .ref h_t_fore, .ref h_t_back, .int m_t_fewest_5, .ref h_t_got])), (h_t_told, jI D 8 t_told_), (h_t_touches, jZ D 32 t_touches_), (h_t_beside, jI D 9 t_beside_), (h_t_slot, jI D 240 m_t_slot__6), (h_t_free, jI D 9 m_t_free__7)]
    unfold bX10_without_9 at h
    have L49 : ∀ (x12 : Int32) (s13 : Int32) (s14 : Int32) (m_t_frees_15 : Int32) (m_t_fewest_16 : Int32) (m_t_slot__17 : Nat → Int32) (m_t_free__18 : Nat → Int32), fX10_without_49 F t_stones t_told_ t_touches_ t_beside_ p1 k9 x12 s13 s14 m_t_frees_15 m_t_fewest_16 m_t_slot__17 m_t_free__18 = some r → JJ D X 3 0 0 49 [(0, .ref h_t), (1, .int p1), (2, .int x12)] [.int s13, .int s14, .ref h_t_slot] [(h_t, .inr (8, [.int t_length, .ref h_t_text, .int t_at, .ref h_t_told, .ref h_t_touches, .ref h_t_has, .ref h_t_old, .ref h_t_beside, .int t_stones, .ref h_t_slot, .int t_kept, .int t_done, .int t_rows, .ref h_t_row, .ref h_t_free, .int m_t_frees_15, .ref h_t_worth, .ref h_t_fore, .ref h_t_back, .int m_t_fewest_16, .ref h_t_got])), (h_t_told, jI D 8 t_told_), (h_t_touches, jZ D 32 t_touches_), (h_t_beside, jI D 9 t_beside_), (h_t_slot, jI D 240 m_t_slot__17), (h_t_free, jI D 9 m_t_free__18)] := by
      intro x12 s13 s14 m_t_frees_15 m_t_fewest_16 m_t_slot__17 m_t_free__18 h
      unfold fX10_without_49 at h
      refine jl_inb h (fun b20 h => ?_)
      refine j_iast C 4 rfl b20 dX10_without_49 (ws' := fun g21 => [(h_t, .inr (8, [.int t_length, .ref h_t_text, .int t_at, .ref h_t_told, .ref h_t_touches, .ref h_t_has, .ref h_t_old, .ref h_t_beside, .int t_stones, .ref h_t_slot, .int t_kept, .int t_done, .int t_rows, .ref h_t_row, .ref h_t_free, .int m_t_frees_15, .ref h_t_worth, .ref h_t_fore, .ref h_t_back, .int m_t_fewest_16, .ref h_t_got])), (h_t_told, jI D 8 t_told_), (h_t_touches, jZ D 32 t_touches_), (h_t_beside, jI D 9 t_beside_), (h_t_slot, jI D 240 g21), (h_t_free, jI D 9 m_t_free__18)]) (fun _ => rfl) h (fun g21 h => ?_)
      refine j_iinc C dX10_without_50 2 rfl (lv' := fun v22 => [(2, .int v22), (0, .ref h_t), (1, .int p1)]) (by decide) (fun _ => rfl) h (fun v22 h => ?_)
      refine j_goto C dX10_without_53 (tgt := 9) (by decide) ?_
      refine j_sub (lv' := [(0, .ref h_t), (1, .int p1), (2, .int v22)]) [1, 2, 0] rfl ?_
      exact i9 v22 m_t_frees_15 m_t_fewest_16 g21 m_t_free__18 h
    refine j_iload_n C dX10_without_9 rfl 2 rfl ?_
    refine j_aload_n C dX10_without_10 rfl 0 rfl ?_
    refine j_get C ibX10 (ci := 8) 0 rfl rfl 8 (by decide) bfX10_91 (v := .int t_stones) rfl dX10_without_11 ?_
    refine j_icmp_ge C (tgt := 56) dX10_without_14 (by decide) h (fun c8 h => ?_) (fun c8 h => ?_)
    · refine j_aload_n C dX10_without_56 rfl 0 rfl ?_
      obtain ⟨r9, q10, h⟩ := jl_bind h
      refine j_cV1 C (mX10_waysOf (jlaunch X) D F h_t h_t_text h_t_told h_t_touches h_t_has h_t_old h_t_beside h_t_slot h_t_row h_t_free h_t_worth h_t_fore h_t_back h_t_got t_length t_at t_stones t_kept t_done t_rows m_t_frees_4 m_t_fewest_5 t_told_ t_touches_ t_beside_ m_t_slot__6 m_t_free__7 r9 q10) bmX10_165 biX10_waysOf bsX10_waysOf bzX10 bcX10_waysOf rfl hX10_waysOf (rest := []) rfl (jroom_of rfl) 0 (ci := 8) rfl rfl rfl [0, 1, 2, 3, 4, 5] [] [0, 1, 2, 3, 4, 5] (wr := []) (ws2 := [(h_t, .inr (8, [.int t_length, .ref h_t_text, .int t_at, .ref h_t_told, .ref h_t_touches, .ref h_t_has, .ref h_t_old, .ref h_t_beside, .int t_stones, .ref h_t_slot, .int t_kept, .int t_done, .int t_rows, .ref h_t_row, .ref h_t_free, .int r9.2.1, .ref h_t_worth, .ref h_t_fore, .ref h_t_back, .int r9.2.2.1, .ref h_t_got])), (h_t_told, jI D 8 t_told_), (h_t_touches, jZ D 32 t_touches_), (h_t_beside, jI D 9 t_beside_), (h_t_slot, jI D 240 r9.2.2.2.1), (h_t_free, jI D 9 r9.2.2.2.2)]) rfl rfl rfl rfl rfl (Nat.le_of_ble_eq_true rfl) dX10_without_57 ?_
      exact j_iretR C (r := r) (rtf := fun r => (some (.int r.1))) (wff := fun r => (oX10_without D h_t h_t_text h_t_told h_t_touches h_t_has h_t_old h_t_beside h_t_slot h_t_row h_t_free h_t_worth h_t_fore h_t_back h_t_got t_length t_at t_stones t_kept t_done t_rows t_told_ t_touches_ t_beside_ r)) E h rfl rfl dX10_without_60
    · refine j_aload_n C dX10_without_17 rfl 0 rfl ?_
      refine j_get C ibX10 (ci := 8) 0 rfl rfl 9 (by decide) bfX10_30 (v := .ref h_t_slot) rfl dX10_without_18 ?_
      refine j_sipush C dX10_without_21 (v := (220 : Int32)) (by decide) ?_
      refine j_iload_n C dX10_without_24 rfl 2 rfl ?_
      refine j_iadd C dX10_without_25 ?_
      refine j_iload_n C dX10_without_26 rfl 1 rfl ?_
      refine j_iload_n C dX10_without_27 rfl 2 rfl ?_
      refine j_ishr C dX10_without_28 ?_
      refine j_iconst C dX10_without_29 (v := (1 : Int32)) (by decide) ?_
      refine j_iand C dX10_without_30 ?_
      refine j_iconst C dX10_without_31 (v := (1 : Int32)) (by decide) ?_
      refine j_icmp_ne C (tgt := 39) dX10_without_32 (by decide) h (fun c11 h => ?_) (fun c11 h => ?_)
      · refine j_iconst C dX10_without_35 (v := (0 : Int32)) (by decide) ?_
        refine j_goto C dX10_without_36 (tgt := 49) (by decide) ?_
        refine j_sub (lv' := [(0, .ref h_t), (1, .int p1), (2, .int x3)]) [0, 1, 2] rfl ?_
        exact L49 x3 ((0 : Int32)) (((220 : Int32)) + x3) m_t_frees_4 m_t_fewest_5 m_t_slot__6 m_t_free__7 h
      · refine j_aload_n C dX10_without_39 rfl 0 rfl ?_
        refine j_get C ibX10 (ci := 8) 0 rfl rfl 9 (by decide) bfX10_30 (v := .ref h_t_slot) rfl dX10_without_40 ?_
        refine j_sipush C dX10_without_43 (v := (220 : Int32)) (by decide) ?_
        refine j_iload_n C dX10_without_46 rfl 2 rfl ?_
        refine j_iadd C dX10_without_47 ?_
        refine jl_inb h (fun b19 h => ?_)
        refine j_iald C 4 rfl b19 dX10_without_48 ?_
        refine j_sub (lv' := [(0, .ref h_t), (1, .int p1), (2, .int x3)]) [0, 1, 2] rfl ?_
        exact L49 x3 (m_t_slot__6 (((220 : Int32)) + x3).toNatClampNeg) (((220 : Int32)) + x3) m_t_frees_4 m_t_fewest_5 m_t_slot__6 m_t_free__7 h
  refine j_aload_n C dX10_without_0 rfl 0 rfl ?_
  refine j_iconst C dX10_without_1 (v := (0 : Int32)) (by decide) ?_
  refine j_bipush C dX10_without_2 (v := (11 : Int32)) (by decide) ?_
  obtain ⟨r1, q2, h⟩ := jl_bind h
  refine j_cV0 C (mX10_copies (jlaunch X) D F h_t h_t_text h_t_told h_t_touches h_t_has h_t_old h_t_beside h_t_slot h_t_row h_t_free h_t_worth h_t_fore h_t_back h_t_got t_length t_at t_stones t_kept t_done t_rows t_frees t_fewest t_slot_ ((0 : Int32)) ((11 : Int32)) r1 q2) bmX10_130 biX10_copies bsX10_copies bzX10 bcX10_copies rfl hX10_copies (rest := []) rfl (jroom_of rfl) 0 (ci := 8) rfl rfl rfl [0, 4] [1, 2, 3, 5] [4, 0, 1, 2, 5, 3] (wr := [(h_t_told, jI D 8 t_told_), (h_t_touches, jZ D 32 t_touches_), (h_t_beside, jI D 9 t_beside_), (h_t_free, jI D 9 t_free_)]) (ws2 := [(h_t, .inr (8, [.int t_length, .ref h_t_text, .int t_at, .ref h_t_told, .ref h_t_touches, .ref h_t_has, .ref h_t_old, .ref h_t_beside, .int t_stones, .ref h_t_slot, .int t_kept, .int t_done, .int t_rows, .ref h_t_row, .ref h_t_free, .int t_frees, .ref h_t_worth, .ref h_t_fore, .ref h_t_back, .int t_fewest, .ref h_t_got])), (h_t_told, jI D 8 t_told_), (h_t_touches, jZ D 32 t_touches_), (h_t_beside, jI D 9 t_beside_), (h_t_slot, jI D 240 r1), (h_t_free, jI D 9 t_free_)]) rfl rfl rfl rfl rfl (Nat.le_of_ble_eq_true rfl) dX10_without_4 ?_
  refine j_iconst C dX10_without_7 (v := (0 : Int32)) (by decide) ?_
  refine j_istore_nC C dX10_without_8 rfl (lv' := [(2, .int ((0 : Int32))), (0, .ref h_t), (1, .int p1)]) (by decide) rfl ?_
  refine j_sub (lv' := [(0, .ref h_t), (1, .int p1), (2, .int ((0 : Int32)))]) [1, 2, 0] rfl ?_
  exact L9 ((0 : Int32)) t_frees t_fewest r1 t_free_ h
theorem dX10_fresh_0 : decode cX10_fresh 0 = .ok (.iconst 0, 1) := by decide +kernel
theorem dX10_fresh_1 : decode cX10_fresh 1 = .ok (.istore_n 1, 1) := by decide +kernel
theorem dX10_fresh_2 : decode cX10_fresh 2 = .ok (.iconst 0, 1) := by decide +kernel
theorem dX10_fresh_3 : decode cX10_fresh 3 = .ok (.istore_n 2, 1) := by decide +kernel
theorem dX10_fresh_4 : decode cX10_fresh 4 = .ok (.iload_n 2, 1) := by decide +kernel
theorem dX10_fresh_5 : decode cX10_fresh 5 = .ok (.aload_n 0, 1) := by decide +kernel
theorem dX10_fresh_6 : decode cX10_fresh 6 = .ok (.getfield 30, 3) := by decide +kernel
theorem dX10_fresh_9 : decode cX10_fresh 9 = .ok (.bipush 18, 2) := by decide +kernel
theorem dX10_fresh_11 : decode cX10_fresh 11 = .ok (.iaload, 1) := by decide +kernel
theorem dX10_fresh_12 : decode cX10_fresh 12 = .ok (.if_icmp .ge 23, 3) := by decide +kernel
theorem dX10_fresh_15 : decode cX10_fresh 15 = .ok (.iload_n 1, 1) := by decide +kernel
theorem dX10_fresh_16 : decode cX10_fresh 16 = .ok (.iconst 1, 1) := by decide +kernel
theorem dX10_fresh_17 : decode cX10_fresh 17 = .ok (.aload_n 0, 1) := by decide +kernel
theorem dX10_fresh_18 : decode cX10_fresh 18 = .ok (.getfield 30, 3) := by decide +kernel
theorem dX10_fresh_21 : decode cX10_fresh 21 = .ok (.bipush 9, 2) := by decide +kernel
theorem dX10_fresh_23 : decode cX10_fresh 23 = .ok (.iload_n 2, 1) := by decide +kernel
theorem dX10_fresh_24 : decode cX10_fresh 24 = .ok (.iadd, 1) := by decide +kernel
theorem dX10_fresh_25 : decode cX10_fresh 25 = .ok (.iaload, 1) := by decide +kernel
theorem dX10_fresh_26 : decode cX10_fresh 26 = .ok (.ishl, 1) := by decide +kernel
theorem dX10_fresh_27 : decode cX10_fresh 27 = .ok (.ior, 1) := by decide +kernel
theorem dX10_fresh_28 : decode cX10_fresh 28 = .ok (.istore_n 1, 1) := by decide +kernel
theorem dX10_fresh_29 : decode cX10_fresh 29 = .ok (.iinc 2 1, 3) := by decide +kernel
theorem dX10_fresh_32 : decode cX10_fresh 32 = .ok (.goto (-28), 3) := by decide +kernel
theorem dX10_fresh_35 : decode cX10_fresh 35 = .ok (.iload_n 1, 1) := by decide +kernel
theorem dX10_fresh_36 : decode cX10_fresh 36 = .ok (.ireturn, 1) := by decide +kernel
def bX10_fresh_4 (F : Nat) (t_slot_ : Nat → Int32)  (k4 : Int32 → Int32 → Option (Int32)) (x1 : Int32) (x2 : Int32) : Option (Int32) :=
(if (t_slot_ ((18 : Int32)).toNatClampNeg) ≤ x2 then
(some (x1))
else
(if (((9 : Int32)) + x2) < 0 ∨ 240 ≤ (((9 : Int32)) + x2).toNatClampNeg then none else
(jl_let (x1 ||| (((1 : Int32)) <<< ((t_slot_ (((9 : Int32)) + x2).toNatClampNeg) &&& 31))) fun v5 =>
(jl_let (x2 + Int32.ofInt (1)) fun v6 =>
(k4 v5 v6)))))
def lX10_fresh_4 (F : Nat) (t_slot_ : Nat → Int32)  (F2 : Nat) (x1 : Int32) (x2 : Int32) : Option (Int32) := jl_loop2 (bX10_fresh_4 F t_slot_ ) F2 x1 x2
def fX10_fresh (F : Nat) (t_slot_ : Nat → Int32) : Option (Int32) :=
(lX10_fresh_4 F t_slot_ F ((0 : Int32)) ((0 : Int32)))
def oX10_fresh (D : jv_D) (h_t : Nat) (h_t_text : Nat) (h_t_told : Nat) (h_t_touches : Nat) (h_t_has : Nat) (h_t_old : Nat) (h_t_beside : Nat) (h_t_slot : Nat) (h_t_row : Nat) (h_t_free : Nat) (h_t_worth : Nat) (h_t_fore : Nat) (h_t_back : Nat) (h_t_got : Nat) (t_length : Int32) (t_at : Int32) (t_stones : Int32) (t_kept : Int32) (t_done : Int32) (t_rows : Int32) (t_frees : Int32) (t_fewest : Int32) (t_slot_ : Nat → Int32) (r : Int32) : va_W := [(h_t, .inr (8, [.int t_length, .ref h_t_text, .int t_at, .ref h_t_told, .ref h_t_touches, .ref h_t_has, .ref h_t_old, .ref h_t_beside, .int t_stones, .ref h_t_slot, .int t_kept, .int t_done, .int t_rows, .ref h_t_row, .ref h_t_free, .int t_frees, .ref h_t_worth, .ref h_t_fore, .ref h_t_back, .int t_fewest, .ref h_t_got])), (h_t_slot, jI D 240 t_slot_)]
set_option maxHeartbeats 40000000 in
set_option maxRecDepth 100000 in
theorem mX10_fresh (l : Launch) (D : jv_D) (F : Nat) (h_t : Nat) (h_t_text : Nat) (h_t_told : Nat) (h_t_touches : Nat) (h_t_has : Nat) (h_t_old : Nat) (h_t_beside : Nat) (h_t_slot : Nat) (h_t_row : Nat) (h_t_free : Nat) (h_t_worth : Nat) (h_t_fore : Nat) (h_t_back : Nat) (h_t_got : Nat) (t_length : Int32) (t_at : Int32) (t_stones : Int32) (t_kept : Int32) (t_done : Int32) (t_rows : Int32) (t_frees : Int32) (t_fewest : Int32) (t_slot_ : Nat → Int32) (r : Int32) (h : fX10_fresh F t_slot_ = some r) : MM l yX10_fresh (jW yX10_fresh cX10_fresh 3 (some .int)) ({ frames := 0, cells := 0, slots := 0, locals := 0 }) D [.ref h_t] [(h_t, .inr (8, [.int t_length, .ref h_t_text, .int t_at, .ref h_t_told, .ref h_t_touches, .ref h_t_has, .ref h_t_old, .ref h_t_beside, .int t_stones, .ref h_t_slot, .int t_kept, .int t_done, .int t_rows, .ref h_t_row, .ref h_t_free, .int t_frees, .ref h_t_worth, .ref h_t_fore, .ref h_t_back, .int t_fewest, .ref h_t_got])), (h_t_slot, jI D 240 t_slot_)] (some (.int r)) (oX10_fresh D h_t h_t_text h_t_told h_t_touches h_t_has h_t_old h_t_beside h_t_slot h_t_row h_t_free h_t_worth h_t_fore h_t_back h_t_got t_length t_at t_stones t_kept t_done t_rows t_frees t_fewest t_slot_ r) := by
  refine mn_of hpX10_fresh (Nat.le_of_ble_eq_true rfl) ?_
  intro X hXl C E0 hN
  subst hXl
  replace C : JC D X 3 RX10 cX10_fresh ({ frames := 0, cells := 0, slots := 0, locals := 0 }) := C
  have E : JE D X 0 0 (some .int) (fun _ : Unit => (some (.int r))) (fun _ : Unit => (oX10_fresh D h_t h_t_text h_t_told h_t_touches h_t_has h_t_old h_t_beside h_t_slot h_t_row h_t_free h_t_worth h_t_fore h_t_back h_t_got t_length t_at t_stones t_kept t_done t_rows t_frees t_fewest t_slot_ r)) := E0 0 0 rfl rfl
  clear E0 hN
  show JJ D X 3 0 0 0 [(0, .ref h_t)] [] [(h_t, .inr (8, [.int t_length, .ref h_t_text, .int t_at, .ref h_t_told, .ref h_t_touches, .ref h_t_has, .ref h_t_old, .ref h_t_beside, .int t_stones, .ref h_t_slot, .int t_kept, .int t_done, .int t_rows, .ref h_t_row, .ref h_t_free, .int t_frees, .ref h_t_worth, .ref h_t_fore, .ref h_t_back, .int t_fewest, .ref h_t_got])), (h_t_slot, jI D 240 t_slot_)]
  unfold fX10_fresh at h
  have L4 : ∀ (x1 : Int32) (x2 : Int32), lX10_fresh_4 F t_slot_  F x1 x2 = some r → JJ D X 3 0 0 4 [(0, .ref h_t), (1, .int x1), (2, .int x2)] [] [(h_t, .inr (8, [.int t_length, .ref h_t_text, .int t_at, .ref h_t_told, .ref h_t_touches, .ref h_t_has, .ref h_t_old, .ref h_t_beside, .int t_stones, .ref h_t_slot, .int t_kept, .int t_done, .int t_rows, .ref h_t_row, .ref h_t_free, .int t_frees, .ref h_t_worth, .ref h_t_fore, .ref h_t_back, .int t_fewest, .ref h_t_got])), (h_t_slot, jI D 240 t_slot_)] := by
    intro x1 x2 h
    refine jl_ind2 (fun x1 x2 => JJ D X 3 0 0 4 [(0, .ref h_t), (1, .int x1), (2, .int x2)] [] [(h_t, .inr (8, [.int t_length, .ref h_t_text, .int t_at, .ref h_t_told, .ref h_t_touches, .ref h_t_has, .ref h_t_old, .ref h_t_beside, .int t_stones, .ref h_t_slot, .int t_kept, .int t_done, .int t_rows, .ref h_t_row, .ref h_t_free, .int t_frees, .ref h_t_worth, .ref h_t_fore, .ref h_t_back, .int t_fewest, .ref h_t_got])), (h_t_slot, jI D 240 t_slot_)]) ?_ F x1 x2 h
    clear h x1 x2
    intro k4 i4 x1 x2 h
    replace i4 : ∀ (x1 : Int32) (x2 : Int32), k4 x1 x2 = some r → JJ D X 3 0 0 4 [(0, .ref h_t), (1, .int x1), (2, .int x2)] [] [(h_t, .inr (8, [.int t_length, .ref h_t_text, .int t_at, .ref h_t_told, .ref h_t_touches, .ref h_t_has, .ref h_t_old, .ref h_t_beside, .int t_stones, .ref h_t_slot, .int t_kept, .int t_done, .int t_rows, .ref h_t_row, .ref h_t_free, .int t_frees, .ref h_t_worth, .ref h_t_fore, .ref h_t_back, .int t_fewest, .ref h_t_got])), (h_t_slot, jI D 240 t_slot_)] := i4
    show JJ D X 3 0 0 4 [(0, .ref h_t), (1, .int x1), (2, .int x2)] [] [(h_t, .inr (8, [.int t_length, .ref h_t_text, .int t_at, .ref h_t_told, .ref h_t_touches, .ref h_t_has, .ref h_t_old, .ref h_t_beside, .int t_stones, .ref h_t_slot, .int t_kept, .int t_done, .int t_rows, .ref h_t_row, .ref h_t_free, .int t_frees, .ref h_t_worth, .ref h_t_fore, .ref h_t_back, .int t_fewest, .ref h_t_got])), (h_t_slot, jI D 240 t_slot_)]
    unfold bX10_fresh_4 at h
    refine j_iload_n C dX10_fresh_4 rfl 2 rfl ?_
    refine j_aload_n C dX10_fresh_5 rfl 0 rfl ?_
    refine j_get C ibX10 (ci := 8) 0 rfl rfl 9 (by decide) bfX10_30 (v := .ref h_t_slot) rfl dX10_fresh_6 ?_
    refine j_bipush C dX10_fresh_9 (v := (18 : Int32)) (by decide) ?_
    refine j_iald C 1 rfl (by unfold vp_in; decide) dX10_fresh_11 ?_
    refine j_icmp_ge C (tgt := 35) dX10_fresh_12 (by decide) h (fun c3 h => ?_) (fun c3 h => ?_)
    · refine j_iload_n C dX10_fresh_35 rfl 1 rfl ?_
      exact j_iretR C (r := r) (rtf := fun r => (some (.int r))) (wff := fun r => (oX10_fresh D h_t h_t_text h_t_told h_t_touches h_t_has h_t_old h_t_beside h_t_slot h_t_row h_t_free h_t_worth h_t_fore h_t_back h_t_got t_length t_at t_stones t_kept t_done t_rows t_frees t_fewest t_slot_ r)) E h rfl rfl dX10_fresh_36
    · refine j_iload_n C dX10_fresh_15 rfl 1 rfl ?_
      refine j_iconst C dX10_fresh_16 (v := (1 : Int32)) (by decide) ?_
      refine j_aload_n C dX10_fresh_17 rfl 0 rfl ?_
      refine j_get C ibX10 (ci := 8) 0 rfl rfl 9 (by decide) bfX10_30 (v := .ref h_t_slot) rfl dX10_fresh_18 ?_
      refine j_bipush C dX10_fresh_21 (v := (9 : Int32)) (by decide) ?_
      refine j_iload_n C dX10_fresh_23 rfl 2 rfl ?_
      refine j_iadd C dX10_fresh_24 ?_
      refine jl_inb h (fun b4 h => ?_)
      refine j_iald C 1 rfl b4 dX10_fresh_25 ?_
      refine j_ishl C dX10_fresh_26 ?_
      refine j_ior C dX10_fresh_27 ?_
      refine j_istore_n C dX10_fresh_28 rfl (lv' := fun v5 => [(1, .int v5), (0, .ref h_t), (2, .int x2)]) (by decide) (fun _ => rfl) h (fun v5 h => ?_)
      refine j_iinc C dX10_fresh_29 2 rfl (lv' := fun v6 => [(2, .int v6), (1, .int v5), (0, .ref h_t)]) (by decide) (fun _ => rfl) h (fun v6 h => ?_)
      refine j_goto C dX10_fresh_32 (tgt := 4) (by decide) ?_
      refine j_sub (lv' := [(0, .ref h_t), (1, .int v5), (2, .int v6)]) [2, 1, 0] rfl ?_
      exact i4 v5 v6 h
  refine j_iconst C dX10_fresh_0 (v := (0 : Int32)) (by decide) ?_
  refine j_istore_nC C dX10_fresh_1 rfl (lv' := [(1, .int ((0 : Int32))), (0, .ref h_t)]) (by decide) rfl ?_
  refine j_iconst C dX10_fresh_2 (v := (0 : Int32)) (by decide) ?_
  refine j_istore_nC C dX10_fresh_3 rfl (lv' := [(2, .int ((0 : Int32))), (1, .int ((0 : Int32))), (0, .ref h_t)]) (by decide) rfl ?_
  refine j_sub (lv' := [(0, .ref h_t), (1, .int ((0 : Int32))), (2, .int ((0 : Int32)))]) [2, 1, 0] rfl ?_
  exact L4 ((0 : Int32)) ((0 : Int32)) h
theorem dX10_scrape_0 : decode cX10_scrape 0 = .ok (.iload_n 1, 1) := by decide +kernel
theorem dX10_scrape_1 : decode cX10_scrape 1 = .ok (.i2l, 1) := by decide +kernel
theorem dX10_scrape_2 : decode cX10_scrape 2 = .ok (.lconst 0, 1) := by decide +kernel
theorem dX10_scrape_3 : decode cX10_scrape 3 = .ok (.lconst 1, 1) := by decide +kernel
theorem dX10_scrape_4 : decode cX10_scrape 4 = .ok (.invokestatic 60, 3) := by decide +kernel
theorem dX10_scrape_7 : decode cX10_scrape 7 = .ok (.ifCond .ne 5, 3) := by decide +kernel
theorem dX10_scrape_10 : decode cX10_scrape 10 = .ok (.iconst (-1), 1) := by decide +kernel
theorem dX10_scrape_11 : decode cX10_scrape 11 = .ok (.ireturn, 1) := by decide +kernel
theorem dX10_scrape_12 : decode cX10_scrape 12 = .ok (.bipush (-4), 2) := by decide +kernel
theorem dX10_scrape_14 : decode cX10_scrape 14 = .ok (.istore_n 2, 1) := by decide +kernel
theorem dX10_scrape_15 : decode cX10_scrape 15 = .ok (.iconst 0, 1) := by decide +kernel
theorem dX10_scrape_16 : decode cX10_scrape 16 = .ok (.istore_n 3, 1) := by decide +kernel
theorem dX10_scrape_17 : decode cX10_scrape 17 = .ok (.iload_n 3, 1) := by decide +kernel
theorem dX10_scrape_18 : decode cX10_scrape 18 = .ok (.iconst 1, 1) := by decide +kernel
theorem dX10_scrape_19 : decode cX10_scrape 19 = .ok (.aload_n 0, 1) := by decide +kernel
theorem dX10_scrape_20 : decode cX10_scrape 20 = .ok (.getfield 91, 3) := by decide +kernel
theorem dX10_scrape_23 : decode cX10_scrape 23 = .ok (.ishl, 1) := by decide +kernel
theorem dX10_scrape_24 : decode cX10_scrape 24 = .ok (.if_icmp .ge 49, 3) := by decide +kernel
theorem dX10_scrape_27 : decode cX10_scrape 27 = .ok (.iload_n 3, 1) := by decide +kernel
theorem dX10_scrape_28 : decode cX10_scrape 28 = .ok (.aload_n 0, 1) := by decide +kernel
theorem dX10_scrape_29 : decode cX10_scrape 29 = .ok (.invokevirtual 168, 3) := by decide +kernel
theorem dX10_scrape_32 : decode cX10_scrape 32 = .ok (.iconst (-1), 1) := by decide +kernel
theorem dX10_scrape_33 : decode cX10_scrape 33 = .ok (.ixor, 1) := by decide +kernel
theorem dX10_scrape_34 : decode cX10_scrape 34 = .ok (.iand, 1) := by decide +kernel
theorem dX10_scrape_35 : decode cX10_scrape 35 = .ok (.ifCond .ne 32, 3) := by decide +kernel
theorem dX10_scrape_38 : decode cX10_scrape 38 = .ok (.iload_n 2, 1) := by decide +kernel
theorem dX10_scrape_39 : decode cX10_scrape 39 = .ok (.ifCond .lt 14, 3) := by decide +kernel
theorem dX10_scrape_42 : decode cX10_scrape 42 = .ok (.iload_n 3, 1) := by decide +kernel
theorem dX10_scrape_43 : decode cX10_scrape 43 = .ok (.invokestatic 162, 3) := by decide +kernel
theorem dX10_scrape_46 : decode cX10_scrape 46 = .ok (.iload_n 2, 1) := by decide +kernel
theorem dX10_scrape_47 : decode cX10_scrape 47 = .ok (.invokestatic 162, 3) := by decide +kernel
theorem dX10_scrape_50 : decode cX10_scrape 50 = .ok (.if_icmp .ge 17, 3) := by decide +kernel
theorem dX10_scrape_53 : decode cX10_scrape 53 = .ok (.aload_n 0, 1) := by decide +kernel
theorem dX10_scrape_54 : decode cX10_scrape 54 = .ok (.iload_n 3, 1) := by decide +kernel
theorem dX10_scrape_55 : decode cX10_scrape 55 = .ok (.invokevirtual 171, 3) := by decide +kernel
theorem dX10_scrape_58 : decode cX10_scrape 58 = .ok (.ifCond .le 7, 3) := by decide +kernel
theorem dX10_scrape_61 : decode cX10_scrape 61 = .ok (.iload_n 3, 1) := by decide +kernel
theorem dX10_scrape_62 : decode cX10_scrape 62 = .ok (.goto 4, 3) := by decide +kernel
theorem dX10_scrape_65 : decode cX10_scrape 65 = .ok (.iload_n 2, 1) := by decide +kernel
theorem dX10_scrape_66 : decode cX10_scrape 66 = .ok (.istore_n 2, 1) := by decide +kernel
theorem dX10_scrape_67 : decode cX10_scrape 67 = .ok (.iinc 3 1, 3) := by decide +kernel
theorem dX10_scrape_70 : decode cX10_scrape 70 = .ok (.goto (-53), 3) := by decide +kernel
theorem dX10_scrape_73 : decode cX10_scrape 73 = .ok (.iload_n 2, 1) := by decide +kernel
theorem dX10_scrape_74 : decode cX10_scrape 74 = .ok (.ifCond .lt 8, 3) := by decide +kernel
theorem dX10_scrape_77 : decode cX10_scrape 77 = .ok (.iload_n 1, 1) := by decide +kernel
theorem dX10_scrape_78 : decode cX10_scrape 78 = .ok (.iconst 1, 1) := by decide +kernel
theorem dX10_scrape_79 : decode cX10_scrape 79 = .ok (.if_icmp .ne 7, 3) := by decide +kernel
theorem dX10_scrape_82 : decode cX10_scrape 82 = .ok (.iload_n 2, 1) := by decide +kernel
theorem dX10_scrape_83 : decode cX10_scrape 83 = .ok (.goto 7, 3) := by decide +kernel
theorem dX10_scrape_86 : decode cX10_scrape 86 = .ok (.iload_n 2, 1) := by decide +kernel
theorem dX10_scrape_87 : decode cX10_scrape 87 = .ok (.invokestatic 162, 3) := by decide +kernel
theorem dX10_scrape_90 : decode cX10_scrape 90 = .ok (.ireturn, 1) := by decide +kernel
def fX10_scrape_66 (F : Nat) (t_stones : Int32) (t_told_ : Nat → Int32) (t_touches_ : Nat → Int32) (t_beside_ : Nat → Int32) (p1 : Int32) (k17 : Int32 → Int32 → Int32 → Int32 → (Nat → Int32) → (Nat → Int32) → Option (Int32 × Int32 × Int32 × (Nat → Int32) × (Nat → Int32))) (x35 : Int32) (s36 : Int32) (m_t_frees_37 : Int32) (m_t_fewest_38 : Int32) (m_t_slot__39 : Nat → Int32) (m_t_free__40 : Nat → Int32) : Option (Int32 × Int32 × Int32 × (Nat → Int32) × (Nat → Int32)) :=
(jl_let (x35 + Int32.ofInt (1)) fun v41 =>
(k17 s36 v41 m_t_frees_37 m_t_fewest_38 m_t_slot__39 m_t_free__40))
def fX10_scrape_53 (F : Nat) (t_stones : Int32) (t_told_ : Nat → Int32) (t_touches_ : Nat → Int32) (t_beside_ : Nat → Int32) (p1 : Int32) (k17 : Int32 → Int32 → Int32 → Int32 → (Nat → Int32) → (Nat → Int32) → Option (Int32 × Int32 × Int32 × (Nat → Int32) × (Nat → Int32))) (x19 : Int32) (x20 : Int32) (m_t_frees_21 : Int32) (m_t_fewest_22 : Int32) (m_t_slot__23 : Nat → Int32) (m_t_free__24 : Nat → Int32) : Option (Int32 × Int32 × Int32 × (Nat → Int32) × (Nat → Int32)) :=
((fX10_without F t_stones m_t_frees_21 m_t_fewest_22 t_told_ t_touches_ t_beside_ m_t_slot__23 m_t_free__24 x20).bind fun r32 =>
(if r32.1 ≤ 0 then
(fX10_scrape_66 F t_stones t_told_ t_touches_ t_beside_ p1 k17 x20 x19 r32.2.1 r32.2.2.1 r32.2.2.2.1 r32.2.2.2.2)
else
(fX10_scrape_66 F t_stones t_told_ t_touches_ t_beside_ p1 k17 x20 x20 r32.2.1 r32.2.2.1 r32.2.2.2.1 r32.2.2.2.2)))
def bX10_scrape_17 (F : Nat) (t_stones : Int32) (t_told_ : Nat → Int32) (t_touches_ : Nat → Int32) (t_beside_ : Nat → Int32) (p1 : Int32)  (k17 : Int32 → Int32 → Int32 → Int32 → (Nat → Int32) → (Nat → Int32) → Option (Int32 × Int32 × Int32 × (Nat → Int32) × (Nat → Int32))) (x4 : Int32) (x5 : Int32) (m_t_frees_6 : Int32) (m_t_fewest_7 : Int32) (m_t_slot__8 : Nat → Int32) (m_t_free__9 : Nat → Int32) : Option (Int32 × Int32 × Int32 × (Nat → Int32) × (Nat → Int32)) :=
(if (((1 : Int32)) <<< (t_stones &&& 31)) ≤ x5 then
(if x4 < 0 then
(some (x4, m_t_frees_6, m_t_fewest_7, m_t_slot__8, m_t_free__9))
else
(if p1 = ((1 : Int32)) then
(some (x4, m_t_frees_6, m_t_fewest_7, m_t_slot__8, m_t_free__9))
else
((fX10_many F x4).bind fun r13 =>
(some (r13, m_t_frees_6, m_t_fewest_7, m_t_slot__8, m_t_free__9)))))
else
((fX10_fresh F m_t_slot__8).bind fun r15 =>
(if (x5 &&& (r15 ^^^ ((-1 : Int32)))) = 0 then
(if x4 < 0 then
(fX10_scrape_53 F t_stones t_told_ t_touches_ t_beside_ p1 k17 x4 x5 m_t_frees_6 m_t_fewest_7 m_t_slot__8 m_t_free__9)
else
((fX10_many F x5).bind fun r25 =>
((fX10_many F x4).bind fun r27 =>
(if r27 ≤ r25 then
(jl_let (x5 + Int32.ofInt (1)) fun v30 =>
(k17 x4 v30 m_t_frees_6 m_t_fewest_7 m_t_slot__8 m_t_free__9))
else
(fX10_scrape_53 F t_stones t_told_ t_touches_ t_beside_ p1 k17 x4 x5 m_t_frees_6 m_t_fewest_7 m_t_slot__8 m_t_free__9)))))
else
(jl_let (x5 + Int32.ofInt (1)) fun v31 =>
(k17 x4 v31 m_t_frees_6 m_t_fewest_7 m_t_slot__8 m_t_free__9)))))
def lX10_scrape_17 (F : Nat) (t_stones : Int32) (t_told_ : Nat → Int32) (t_touches_ : Nat → Int32) (t_beside_ : Nat → Int32) (p1 : Int32)  (F2 : Nat) (x4 : Int32) (x5 : Int32) (m_t_frees_6 : Int32) (m_t_fewest_7 : Int32) (m_t_slot__8 : Nat → Int32) (m_t_free__9 : Nat → Int32) : Option (Int32 × Int32 × Int32 × (Nat → Int32) × (Nat → Int32)) := jl_loop6 (bX10_scrape_17 F t_stones t_told_ t_touches_ t_beside_ p1 ) F2 x4 x5 m_t_frees_6 m_t_fewest_7 m_t_slot__8 m_t_free__9
def fX10_scrape (F : Nat) (t_stones : Int32) (t_frees : Int32) (t_fewest : Int32) (t_told_ : Nat → Int32) (t_touches_ : Nat → Int32) (t_beside_ : Nat → Int32) (t_slot_ : Nat → Int32) (t_free_ : Nat → Int32) (p1 : Int32) : Option (Int32 × Int32 × Int32 × (Nat → Int32) × (Nat → Int32)) :=
((fX10_in p1.toInt64 ((0 : Int64)) ((1 : Int64))).bind fun r1 =>
(if r1 = 0 then
(some ((-1 : Int32), t_frees, t_fewest, t_slot_, t_free_))
else
(lX10_scrape_17 F t_stones t_told_ t_touches_ t_beside_ p1 F ((-4 : Int32)) ((0 : Int32)) t_frees t_fewest t_slot_ t_free_)))
def oX10_scrape (D : jv_D) (h_t : Nat) (h_t_text : Nat) (h_t_told : Nat) (h_t_touches : Nat) (h_t_has : Nat) (h_t_old : Nat) (h_t_beside : Nat) (h_t_slot : Nat) (h_t_row : Nat) (h_t_free : Nat) (h_t_worth : Nat) (h_t_fore : Nat) (h_t_back : Nat) (h_t_got : Nat) (t_length : Int32) (t_at : Int32) (t_stones : Int32) (t_kept : Int32) (t_done : Int32) (t_rows : Int32) (t_told_ : Nat → Int32) (t_touches_ : Nat → Int32) (t_beside_ : Nat → Int32) (r : Int32 × Int32 × Int32 × (Nat → Int32) × (Nat → Int32)) : va_W := [(h_t, .inr (8, [.int t_length, .ref h_t_text, .int t_at, .ref h_t_told, .ref h_t_touches, .ref h_t_has, .ref h_t_old, .ref h_t_beside, .int t_stones, .ref h_t_slot, .int t_kept, .int t_done, .int t_rows, .ref h_t_row, .ref h_t_free, .int r.2.1, .ref h_t_worth, .ref h_t_fore, .ref h_t_back, .int r.2.2.1, .ref h_t_got])), (h_t_told, jI D 8 t_told_), (h_t_touches, jZ D 32 t_touches_), (h_t_beside, jI D 9 t_beside_), (h_t_slot, jI D 240 r.2.2.2.1), (h_t_free, jI D 9 r.2.2.2.2)]
set_option maxHeartbeats 40000000 in
set_option maxRecDepth 100000 in
theorem mX10_scrape (l : Launch) (D : jv_D) (F : Nat) (h_t : Nat) (h_t_text : Nat) (h_t_told : Nat) (h_t_touches : Nat) (h_t_has : Nat) (h_t_old : Nat) (h_t_beside : Nat) (h_t_slot : Nat) (h_t_row : Nat) (h_t_free : Nat) (h_t_worth : Nat) (h_t_fore : Nat) (h_t_back : Nat) (h_t_got : Nat) (t_length : Int32) (t_at : Int32) (t_stones : Int32) (t_kept : Int32) (t_done : Int32) (t_rows : Int32) (t_frees : Int32) (t_fewest : Int32) (t_told_ : Nat → Int32) (t_touches_ : Nat → Int32) (t_beside_ : Nat → Int32) (t_slot_ : Nat → Int32) (t_free_ : Nat → Int32) (p1 : Int32) (r : Int32 × Int32 × Int32 × (Nat → Int32) × (Nat → Int32)) (h : fX10_scrape F t_stones t_frees t_fewest t_told_ t_touches_ t_beside_ t_slot_ t_free_ p1 = some r) : MM l yX10_scrape (jW yX10_scrape cX10_scrape 4 (some .int)) ({ frames := 4, cells := 0, slots := 0, locals := 94 }) D [.ref h_t, .int p1] [(h_t, .inr (8, [.int t_length, .ref h_t_text, .int t_at, .ref h_t_told, .ref h_t_touches, .ref h_t_has, .ref h_t_old, .ref h_t_beside, .int t_stones, .ref h_t_slot, .int t_kept, .int t_done, .int t_rows, .ref h_t_row, .ref h_t_free, .int t_frees, .ref h_t_worth, .ref h_t_fore, .ref h_t_back, .int t_fewest, .ref h_t_got])), (h_t_told, jI D 8 t_told_), (h_t_touches, jZ D 32 t_touches_), (h_t_beside, jI D 9 t_beside_), (h_t_slot, jI D 240 t_slot_), (h_t_free, jI D 9 t_free_)] (some (.int r.1)) (oX10_scrape D h_t h_t_text h_t_told h_t_touches h_t_has h_t_old h_t_beside h_t_slot h_t_row h_t_free h_t_worth h_t_fore h_t_back h_t_got t_length t_at t_stones t_kept t_done t_rows t_told_ t_touches_ t_beside_ r) := by
  refine mn_of hpX10_scrape (Nat.le_of_ble_eq_true rfl) ?_
  intro X hXl C E0 hN
  subst hXl
  replace C : JC D X 4 RX10 cX10_scrape ({ frames := 4, cells := 0, slots := 0, locals := 94 }) := C
  have E : JE D X 0 0 (some .int) (fun _ : Unit => (some (.int r.1))) (fun _ : Unit => (oX10_scrape D h_t h_t_text h_t_told h_t_touches h_t_has h_t_old h_t_beside h_t_slot h_t_row h_t_free h_t_worth h_t_fore h_t_back h_t_got t_length t_at t_stones t_kept t_done t_rows t_told_ t_touches_ t_beside_ r)) := E0 0 0 rfl rfl
  clear E0 hN
  show JJ D X 4 0 0 0 [(0, .ref h_t), (1, .int p1)] [] [(h_t, .inr (8, [.int t_length, .ref h_t_text, .int t_at, .ref h_t_told, .ref h_t_touches, .ref h_t_has, .ref h_t_old, .ref h_t_beside, .int t_stones, .ref h_t_slot, .int t_kept, .int t_done, .int t_rows, .ref h_t_row, .ref h_t_free, .int t_frees, .ref h_t_worth, .ref h_t_fore, .ref h_t_back, .int t_fewest, .ref h_t_got])), (h_t_told, jI D 8 t_told_), (h_t_touches, jZ D 32 t_touches_), (h_t_beside, jI D 9 t_beside_), (h_t_slot, jI D 240 t_slot_), (h_t_free, jI D 9 t_free_)]
  unfold fX10_scrape at h
  have L17 : ∀ (x4 : Int32) (x5 : Int32) (m_t_frees_6 : Int32) (m_t_fewest_7 : Int32) (m_t_slot__8 : Nat → Int32) (m_t_free__9 : Nat → Int32), lX10_scrape_17 F t_stones t_told_ t_touches_ t_beside_ p1  F x4 x5 m_t_frees_6 m_t_fewest_7 m_t_slot__8 m_t_free__9 = some r → JJ D X 4 0 0 17 [(0, .ref h_t), (1, .int p1), (2, .int x4), (3, .int x5)] [] [(h_t, .inr (8, [.int t_length, .ref h_t_text, .int t_at, .ref h_t_told, .ref h_t_touches, .ref h_t_has, .ref h_t_old, .ref h_t_beside, .int t_stones, .ref h_t_slot, .int t_kept, .int t_done, .int t_rows, .ref h_t_row, .ref h_t_free, .int m_t_frees_6, .ref h_t_worth, .ref h_t_fore, .ref h_t_back, .int m_t_fewest_7, .ref h_t_got])), (h_t_told, jI D 8 t_told_), (h_t_touches, jZ D 32 t_touches_), (h_t_beside, jI D 9 t_beside_), (h_t_slot, jI D 240 m_t_slot__8), (h_t_free, jI D 9 m_t_free__9)] := by
    intro x4 x5 m_t_frees_6 m_t_fewest_7 m_t_slot__8 m_t_free__9 h
    refine jl_ind6 (fun x4 x5 m_t_frees_6 m_t_fewest_7 m_t_slot__8 m_t_free__9 => JJ D X 4 0 0 17 [(0, .ref h_t), (1, .int p1), (2, .int x4), (3, .int x5)] [] [(h_t, .inr (8, [.int t_length, .ref h_t_text, .int t_at, .ref h_t_told, .ref h_t_touches, .ref h_t_has, .ref h_t_old, .ref h_t_beside, .int t_stones, .ref h_t_slot, .int t_kept, .int t_done, .int t_rows, .ref h_t_row, .ref h_t_free, .int m_t_frees_6, .ref h_t_worth, .ref h_t_fore, .ref h_t_back, .int m_t_fewest_7, .ref h_t_got])), (h_t_told, jI D 8 t_told_), (h_t_touches, jZ D 32 t_touches_), (h_t_beside, jI D 9 t_beside_), (h_t_slot, jI D 240 m_t_slot__8), (h_t_free, jI D 9 m_t_free__9)]) ?_ F x4 x5 m_t_frees_6 m_t_fewest_7 m_t_slot__8 m_t_free__9 h
    clear h x4 x5 m_t_frees_6 m_t_fewest_7 m_t_slot__8 m_t_free__9
    intro k17 i17 x4 x5 m_t_frees_6 m_t_fewest_7 m_t_slot__8 m_t_free__9 h
    replace i17 : ∀ (x4 : Int32) (x5 : Int32) (m_t_frees_6 : Int32) (m_t_fewest_7 : Int32) (m_t_slot__8 : Nat → Int32) (m_t_free__9 : Nat → Int32), k17 x4 x5 m_t_frees_6 m_t_fewest_7 m_t_slot__8 m_t_free__9 = some r → JJ D X 4 0 0 17 [(0, .ref h_t), (1, .int p1), (2, .int x4), (3, .int x5)] [] [(h_t, .inr (8, [.int t_length, .ref h_t_text, .int t_at, .ref h_t_told, .ref h_t_touches, .ref h_t_has, .ref h_t_old, .ref h_t_beside, .int t_stones, .ref h_t_slot, .int t_kept, .int t_done, .int t_rows, .ref h_t_row, .ref h_t_free, .int m_t_frees_6, .ref h_t_worth, .ref h_t_fore, .ref h_t_back, .int m_t_fewest_7, .ref h_t_got])), (h_t_told, jI D 8 t_told_), (h_t_touches, jZ D 32 t_touches_), (h_t_beside, jI D 9 t_beside_), (h_t_slot, jI D 240 m_t_slot__8), (h_t_free, jI D 9 m_t_free__9)] := i17
    show JJ D X 4 0 0 17 [(0, .ref h_t), (1, .int p1), (2, .int x4), (3, .int x5)] [] [(h_t, .inr (8, [.int t_length, .ref h_t_text, .int t_at, .ref h_t_told, .ref h_t_touches, .ref h_t_has, .ref h_t_old, .ref h_t_beside, .int t_stones, .ref h_t_slot, .int t_kept, .int t_done, .int t_rows, .ref h_t_row, .ref h_t_free, .int m_t_frees_6, .ref h_t_worth, .ref h_t_fore, .ref h_t_back, .int m_t_fewest_7, .ref h_t_got])), (h_t_told, jI D 8 t_told_), (h_t_touches, jZ D 32 t_touches_), (h_t_beside, jI D 9 t_beside_), (h_t_slot, jI D 240 m_t_slot__8), (h_t_free, jI D 9 m_t_free__9)]
    unfold bX10_scrape_17 at h
    have L66 : ∀ (x35 : Int32) (s36 : Int32) (m_t_frees_37 : Int32) (m_t_fewest_38 : Int32) (m_t_slot__39 : Nat → Int32) (m_t_free__40 : Nat → Int32), fX10_scrape_66 F t_stones t_told_ t_touches_ t_beside_ p1 k17 x35 s36 m_t_frees_37 m_t_fewest_38 m_t_slot__39 m_t_free__40 = some r → JJ D X 4 0 0 66 [(0, .ref h_t), (1, .int p1), (3, .int x35)] [.int s36] [(h_t, .inr (8, [.int t_length, .ref h_t_text, .int t_at, .ref h_t_told, .ref h_t_touches, .ref h_t_has, .ref h_t_old, .ref h_t_beside, .int t_stones, .ref h_t_slot, .int t_kept, .int t_done, .int t_rows, .ref h_t_row, .ref h_t_free, .int m_t_frees_37, .ref h_t_worth, .ref h_t_fore, .ref h_t_back, .int m_t_fewest_38, .ref h_t_got])), (h_t_told, jI D 8 t_told_), (h_t_touches, jZ D 32 t_touches_), (h_t_beside, jI D 9 t_beside_), (h_t_slot, jI D 240 m_t_slot__39), (h_t_free, jI D 9 m_t_free__40)] := by
      intro x35 s36 m_t_frees_37 m_t_fewest_38 m_t_slot__39 m_t_free__40 h
      unfold fX10_scrape_66 at h
      refine j_istore_nC C dX10_scrape_66 rfl (lv' := [(2, .int s36), (0, .ref h_t), (1, .int p1), (3, .int x35)]) (by decide) rfl ?_
      refine j_iinc C dX10_scrape_67 3 rfl (lv' := fun v41 => [(3, .int v41), (2, .int s36), (0, .ref h_t), (1, .int p1)]) (by decide) (fun _ => rfl) h (fun v41 h => ?_)
      refine j_goto C dX10_scrape_70 (tgt := 17) (by decide) ?_
      refine j_sub (lv' := [(0, .ref h_t), (1, .int p1), (2, .int s36), (3, .int v41)]) [2, 3, 1, 0] rfl ?_
      exact i17 s36 v41 m_t_frees_37 m_t_fewest_38 m_t_slot__39 m_t_free__40 h
    have L53 : ∀ (x19 : Int32) (x20 : Int32) (m_t_frees_21 : Int32) (m_t_fewest_22 : Int32) (m_t_slot__23 : Nat → Int32) (m_t_free__24 : Nat → Int32), fX10_scrape_53 F t_stones t_told_ t_touches_ t_beside_ p1 k17 x19 x20 m_t_frees_21 m_t_fewest_22 m_t_slot__23 m_t_free__24 = some r → JJ D X 4 0 0 53 [(0, .ref h_t), (1, .int p1), (2, .int x19), (3, .int x20)] [] [(h_t, .inr (8, [.int t_length, .ref h_t_text, .int t_at, .ref h_t_told, .ref h_t_touches, .ref h_t_has, .ref h_t_old, .ref h_t_beside, .int t_stones, .ref h_t_slot, .int t_kept, .int t_done, .int t_rows, .ref h_t_row, .ref h_t_free, .int m_t_frees_21, .ref h_t_worth, .ref h_t_fore, .ref h_t_back, .int m_t_fewest_22, .ref h_t_got])), (h_t_told, jI D 8 t_told_), (h_t_touches, jZ D 32 t_touches_), (h_t_beside, jI D 9 t_beside_), (h_t_slot, jI D 240 m_t_slot__23), (h_t_free, jI D 9 m_t_free__24)] := by
      intro x19 x20 m_t_frees_21 m_t_fewest_22 m_t_slot__23 m_t_free__24 h
      unfold fX10_scrape_53 at h
      refine j_aload_n C dX10_scrape_53 rfl 0 rfl ?_
      refine j_iload_n C dX10_scrape_54 rfl 3 rfl ?_
      obtain ⟨r32, q33, h⟩ := jl_bind h
      refine j_cV1 C (mX10_without (jlaunch X) D F h_t h_t_text h_t_told h_t_touches h_t_has h_t_old h_t_beside h_t_slot h_t_row h_t_free h_t_worth h_t_fore h_t_back h_t_got t_length t_at t_stones t_kept t_done t_rows m_t_frees_21 m_t_fewest_22 t_told_ t_touches_ t_beside_ m_t_slot__23 m_t_free__24 x20 r32 q33) bmX10_171 biX10_without bsX10_without bzX10 bcX10_without rfl hX10_without (rest := []) rfl (jroom_of rfl) 0 (ci := 8) rfl rfl rfl [0, 1, 2, 3, 4, 5] [] [0, 1, 2, 3, 4, 5] (wr := []) (ws2 := [(h_t, .inr (8, [.int t_length, .ref h_t_text, .int t_at, .ref h_t_told, .ref h_t_touches, .ref h_t_has, .ref h_t_old, .ref h_t_beside, .int t_stones, .ref h_t_slot, .int t_kept, .int t_done, .int t_rows, .ref h_t_row, .ref h_t_free, .int r32.2.1, .ref h_t_worth, .ref h_t_fore, .ref h_t_back, .int r32.2.2.1, .ref h_t_got])), (h_t_told, jI D 8 t_told_), (h_t_touches, jZ D 32 t_touches_), (h_t_beside, jI D 9 t_beside_), (h_t_slot, jI D 240 r32.2.2.2.1), (h_t_free, jI D 9 r32.2.2.2.2)]) rfl rfl rfl rfl rfl (Nat.le_of_ble_eq_true rfl) dX10_scrape_55 ?_
      refine j_if_le C (tgt := 65) dX10_scrape_58 (by decide) h (fun c34 h => ?_) (fun c34 h => ?_)
      · refine j_iload_n C dX10_scrape_65 rfl 2 rfl ?_
        refine j_sub (lv' := [(0, .ref h_t), (1, .int p1), (3, .int x20)]) [0, 1, 3] rfl ?_
        exact L66 x20 x19 r32.2.1 r32.2.2.1 r32.2.2.2.1 r32.2.2.2.2 h
      · refine j_iload_n C dX10_scrape_61 rfl 3 rfl ?_
        refine j_goto C dX10_scrape_62 (tgt := 66) (by decide) ?_
        refine j_sub (lv' := [(0, .ref h_t), (1, .int p1), (3, .int x20)]) [0, 1, 3] rfl ?_
        exact L66 x20 x20 r32.2.1 r32.2.2.1 r32.2.2.2.1 r32.2.2.2.2 h
    refine j_iload_n C dX10_scrape_17 rfl 3 rfl ?_
    refine j_iconst C dX10_scrape_18 (v := (1 : Int32)) (by decide) ?_
    refine j_aload_n C dX10_scrape_19 rfl 0 rfl ?_
    refine j_get C ibX10 (ci := 8) 0 rfl rfl 8 (by decide) bfX10_91 (v := .int t_stones) rfl dX10_scrape_20 ?_
    refine j_ishl C dX10_scrape_23 ?_
    refine j_icmp_ge C (tgt := 73) dX10_scrape_24 (by decide) h (fun c10 h => ?_) (fun c10 h => ?_)
    · refine j_iload_n C dX10_scrape_73 rfl 2 rfl ?_
      refine j_if_lt C (tgt := 82) dX10_scrape_74 (by decide) h (fun c11 h => ?_) (fun c11 h => ?_)
      · refine j_iload_n C dX10_scrape_82 rfl 2 rfl ?_
        refine j_goto C dX10_scrape_83 (tgt := 90) (by decide) ?_
        exact j_iretR C (r := r) (rtf := fun r => (some (.int r.1))) (wff := fun r => (oX10_scrape D h_t h_t_text h_t_told h_t_touches h_t_has h_t_old h_t_beside h_t_slot h_t_row h_t_free h_t_worth h_t_fore h_t_back h_t_got t_length t_at t_stones t_kept t_done t_rows t_told_ t_touches_ t_beside_ r)) E h rfl rfl dX10_scrape_90
      · refine j_iload_n C dX10_scrape_77 rfl 1 rfl ?_
        refine j_iconst C dX10_scrape_78 (v := (1 : Int32)) (by decide) ?_
        refine j_icmp_ne C (tgt := 86) dX10_scrape_79 (by decide) h (fun c12 h => ?_) (fun c12 h => ?_)
        · refine j_iload_n C dX10_scrape_82 rfl 2 rfl ?_
          refine j_goto C dX10_scrape_83 (tgt := 90) (by decide) ?_
          exact j_iretR C (r := r) (rtf := fun r => (some (.int r.1))) (wff := fun r => (oX10_scrape D h_t h_t_text h_t_told h_t_touches h_t_has h_t_old h_t_beside h_t_slot h_t_row h_t_free h_t_worth h_t_fore h_t_back h_t_got t_length t_at t_stones t_kept t_done t_rows t_told_ t_touches_ t_beside_ r)) E h rfl rfl dX10_scrape_90
        · refine j_iload_n C dX10_scrape_86 rfl 2 rfl ?_
          obtain ⟨r13, q14, h⟩ := jl_bind h
          refine j_cS1 C (mX10_many (jlaunch X) D F x4 r13 q14) bmX10_162 btX10_many bzX10 bcX10_many hX10_many (rest := []) rfl (jroom_of rfl) [] [0, 1, 2, 3, 4, 5] [0, 1, 2, 3, 4, 5] (wr := [(h_t, .inr (8, [.int t_length, .ref h_t_text, .int t_at, .ref h_t_told, .ref h_t_touches, .ref h_t_has, .ref h_t_old, .ref h_t_beside, .int t_stones, .ref h_t_slot, .int t_kept, .int t_done, .int t_rows, .ref h_t_row, .ref h_t_free, .int m_t_frees_6, .ref h_t_worth, .ref h_t_fore, .ref h_t_back, .int m_t_fewest_7, .ref h_t_got])), (h_t_told, jI D 8 t_told_), (h_t_touches, jZ D 32 t_touches_), (h_t_beside, jI D 9 t_beside_), (h_t_slot, jI D 240 m_t_slot__8), (h_t_free, jI D 9 m_t_free__9)]) (ws2 := [(h_t, .inr (8, [.int t_length, .ref h_t_text, .int t_at, .ref h_t_told, .ref h_t_touches, .ref h_t_has, .ref h_t_old, .ref h_t_beside, .int t_stones, .ref h_t_slot, .int t_kept, .int t_done, .int t_rows, .ref h_t_row, .ref h_t_free, .int m_t_frees_6, .ref h_t_worth, .ref h_t_fore, .ref h_t_back, .int m_t_fewest_7, .ref h_t_got])), (h_t_told, jI D 8 t_told_), (h_t_touches, jZ D 32 t_touches_), (h_t_beside, jI D 9 t_beside_), (h_t_slot, jI D 240 m_t_slot__8), (h_t_free, jI D 9 m_t_free__9)]) rfl rfl rfl rfl rfl (Nat.le_of_ble_eq_true rfl) dX10_scrape_87 ?_
          exact j_iretR C (r := r) (rtf := fun r => (some (.int r.1))) (wff := fun r => (oX10_scrape D h_t h_t_text h_t_told h_t_touches h_t_has h_t_old h_t_beside h_t_slot h_t_row h_t_free h_t_worth h_t_fore h_t_back h_t_got t_length t_at t_stones t_kept t_done t_rows t_told_ t_touches_ t_beside_ r)) E h rfl rfl dX10_scrape_90
    · refine j_iload_n C dX10_scrape_27 rfl 3 rfl ?_
      refine j_aload_n C dX10_scrape_28 rfl 0 rfl ?_
      obtain ⟨r15, q16, h⟩ := jl_bind h
      refine j_cV1 C (mX10_fresh (jlaunch X) D F h_t h_t_text h_t_told h_t_touches h_t_has h_t_old h_t_beside h_t_slot h_t_row h_t_free h_t_worth h_t_fore h_t_back h_t_got t_length t_at t_stones t_kept t_done t_rows m_t_frees_6 m_t_fewest_7 m_t_slot__8 r15 q16) bmX10_168 biX10_fresh bsX10_fresh bzX10 bcX10_fresh rfl hX10_fresh (rest := [.int x5]) rfl (jroom_of rfl) 0 (ci := 8) rfl rfl rfl [0, 4] [1, 2, 3, 5] [4, 0, 1, 2, 5, 3] (wr := [(h_t_told, jI D 8 t_told_), (h_t_touches, jZ D 32 t_touches_), (h_t_beside, jI D 9 t_beside_), (h_t_free, jI D 9 m_t_free__9)]) (ws2 := [(h_t, .inr (8, [.int t_length, .ref h_t_text, .int t_at, .ref h_t_told, .ref h_t_touches, .ref h_t_has, .ref h_t_old, .ref h_t_beside, .int t_stones, .ref h_t_slot, .int t_kept, .int t_done, .int t_rows, .ref h_t_row, .ref h_t_free, .int m_t_frees_6, .ref h_t_worth, .ref h_t_fore, .ref h_t_back, .int m_t_fewest_7, .ref h_t_got])), (h_t_told, jI D 8 t_told_), (h_t_touches, jZ D 32 t_touches_), (h_t_beside, jI D 9 t_beside_), (h_t_slot, jI D 240 m_t_slot__8), (h_t_free, jI D 9 m_t_free__9)]) rfl rfl rfl rfl rfl (Nat.le_of_ble_eq_true rfl) dX10_scrape_29 ?_
      refine j_iconst C dX10_scrape_32 (v := (-1 : Int32)) (by decide) ?_
      refine j_ixor C dX10_scrape_33 ?_
      refine j_iand C dX10_scrape_34 ?_
      refine j_if_ne C (tgt := 67) dX10_scrape_35 (by decide) h (fun c17 h => ?_) (fun c17 h => ?_)
      · refine j_iload_n C dX10_scrape_38 rfl 2 rfl ?_
        refine j_if_lt C (tgt := 53) dX10_scrape_39 (by decide) h (fun c18 h => ?_) (fun c18 h => ?_)
        · refine j_sub (lv' := [(0, .ref h_t), (1, .int p1), (2, .int x4), (3, .int x5)]) [0, 1, 2, 3] rfl ?_
          exact L53 x4 x5 m_t_frees_6 m_t_fewest_7 m_t_slot__8 m_t_free__9 h
        · refine j_iload_n C dX10_scrape_42 rfl 3 rfl ?_
          obtain ⟨r25, q26, h⟩ := jl_bind h
          refine j_cS1 C (mX10_many (jlaunch X) D F x5 r25 q26) bmX10_162 btX10_many bzX10 bcX10_many hX10_many (rest := []) rfl (jroom_of rfl) [] [0, 1, 2, 3, 4, 5] [0, 1, 2, 3, 4, 5] (wr := [(h_t, .inr (8, [.int t_length, .ref h_t_text, .int t_at, .ref h_t_told, .ref h_t_touches, .ref h_t_has, .ref h_t_old, .ref h_t_beside, .int t_stones, .ref h_t_slot, .int t_kept, .int t_done, .int t_rows, .ref h_t_row, .ref h_t_free, .int m_t_frees_6, .ref h_t_worth, .ref h_t_fore, .ref h_t_back, .int m_t_fewest_7, .ref h_t_got])), (h_t_told, jI D 8 t_told_), (h_t_touches, jZ D 32 t_touches_), (h_t_beside, jI D 9 t_beside_), (h_t_slot, jI D 240 m_t_slot__8), (h_t_free, jI D 9 m_t_free__9)]) (ws2 := [(h_t, .inr (8, [.int t_length, .ref h_t_text, .int t_at, .ref h_t_told, .ref h_t_touches, .ref h_t_has, .ref h_t_old, .ref h_t_beside, .int t_stones, .ref h_t_slot, .int t_kept, .int t_done, .int t_rows, .ref h_t_row, .ref h_t_free, .int m_t_frees_6, .ref h_t_worth, .ref h_t_fore, .ref h_t_back, .int m_t_fewest_7, .ref h_t_got])), (h_t_told, jI D 8 t_told_), (h_t_touches, jZ D 32 t_touches_), (h_t_beside, jI D 9 t_beside_), (h_t_slot, jI D 240 m_t_slot__8), (h_t_free, jI D 9 m_t_free__9)]) rfl rfl rfl rfl rfl (Nat.le_of_ble_eq_true rfl) dX10_scrape_43 ?_
          refine j_iload_n C dX10_scrape_46 rfl 2 rfl ?_
          obtain ⟨r27, q28, h⟩ := jl_bind h
          refine j_cS1 C (mX10_many (jlaunch X) D F x4 r27 q28) bmX10_162 btX10_many bzX10 bcX10_many hX10_many (rest := [.int r25]) rfl (jroom_of rfl) [] [0, 1, 2, 3, 4, 5] [0, 1, 2, 3, 4, 5] (wr := [(h_t, .inr (8, [.int t_length, .ref h_t_text, .int t_at, .ref h_t_told, .ref h_t_touches, .ref h_t_has, .ref h_t_old, .ref h_t_beside, .int t_stones, .ref h_t_slot, .int t_kept, .int t_done, .int t_rows, .ref h_t_row, .ref h_t_free, .int m_t_frees_6, .ref h_t_worth, .ref h_t_fore, .ref h_t_back, .int m_t_fewest_7, .ref h_t_got])), (h_t_told, jI D 8 t_told_), (h_t_touches, jZ D 32 t_touches_), (h_t_beside, jI D 9 t_beside_), (h_t_slot, jI D 240 m_t_slot__8), (h_t_free, jI D 9 m_t_free__9)]) (ws2 := [(h_t, .inr (8, [.int t_length, .ref h_t_text, .int t_at, .ref h_t_told, .ref h_t_touches, .ref h_t_has, .ref h_t_old, .ref h_t_beside, .int t_stones, .ref h_t_slot, .int t_kept, .int t_done, .int t_rows, .ref h_t_row, .ref h_t_free, .int m_t_frees_6, .ref h_t_worth, .ref h_t_fore, .ref h_t_back, .int m_t_fewest_7, .ref h_t_got])), (h_t_told, jI D 8 t_told_), (h_t_touches, jZ D 32 t_touches_), (h_t_beside, jI D 9 t_beside_), (h_t_slot, jI D 240 m_t_slot__8), (h_t_free, jI D 9 m_t_free__9)]) rfl rfl rfl rfl rfl (Nat.le_of_ble_eq_true rfl) dX10_scrape_47 ?_
          refine j_icmp_ge C (tgt := 67) dX10_scrape_50 (by decide) h (fun c29 h => ?_) (fun c29 h => ?_)
          · refine j_iinc C dX10_scrape_67 3 rfl (lv' := fun v30 => [(3, .int v30), (0, .ref h_t), (1, .int p1), (2, .int x4)]) (by decide) (fun _ => rfl) h (fun v30 h => ?_)
            refine j_goto C dX10_scrape_70 (tgt := 17) (by decide) ?_
            refine j_sub (lv' := [(0, .ref h_t), (1, .int p1), (2, .int x4), (3, .int v30)]) [1, 2, 3, 0] rfl ?_
            exact i17 x4 v30 m_t_frees_6 m_t_fewest_7 m_t_slot__8 m_t_free__9 h
          · refine j_sub (lv' := [(0, .ref h_t), (1, .int p1), (2, .int x4), (3, .int x5)]) [0, 1, 2, 3] rfl ?_
            exact L53 x4 x5 m_t_frees_6 m_t_fewest_7 m_t_slot__8 m_t_free__9 h
      · refine j_iinc C dX10_scrape_67 3 rfl (lv' := fun v31 => [(3, .int v31), (0, .ref h_t), (1, .int p1), (2, .int x4)]) (by decide) (fun _ => rfl) h (fun v31 h => ?_)
        refine j_goto C dX10_scrape_70 (tgt := 17) (by decide) ?_
        refine j_sub (lv' := [(0, .ref h_t), (1, .int p1), (2, .int x4), (3, .int v31)]) [1, 2, 3, 0] rfl ?_
        exact i17 x4 v31 m_t_frees_6 m_t_fewest_7 m_t_slot__8 m_t_free__9 h
  refine j_iload_n C dX10_scrape_0 rfl 1 rfl ?_
  refine j_i2l C dX10_scrape_1 ?_
  refine j_lconst C dX10_scrape_2 (v := (0 : Int64)) (by decide) ?_
  refine j_lconst C dX10_scrape_3 (v := (1 : Int64)) (by decide) ?_
  obtain ⟨r1, q2, h⟩ := jl_bind h
  refine j_cS1 C (mX10_in (jlaunch X) D p1.toInt64 ((0 : Int64)) ((1 : Int64)) r1 q2) bmX10_60 btX10_in bzX10 bcX10_in hX10_in (rest := []) rfl (jroom_of rfl) [] [0, 1, 2, 3, 4, 5] [0, 1, 2, 3, 4, 5] (wr := [(h_t, .inr (8, [.int t_length, .ref h_t_text, .int t_at, .ref h_t_told, .ref h_t_touches, .ref h_t_has, .ref h_t_old, .ref h_t_beside, .int t_stones, .ref h_t_slot, .int t_kept, .int t_done, .int t_rows, .ref h_t_row, .ref h_t_free, .int t_frees, .ref h_t_worth, .ref h_t_fore, .ref h_t_back, .int t_fewest, .ref h_t_got])), (h_t_told, jI D 8 t_told_), (h_t_touches, jZ D 32 t_touches_), (h_t_beside, jI D 9 t_beside_), (h_t_slot, jI D 240 t_slot_), (h_t_free, jI D 9 t_free_)]) (ws2 := [(h_t, .inr (8, [.int t_length, .ref h_t_text, .int t_at, .ref h_t_told, .ref h_t_touches, .ref h_t_has, .ref h_t_old, .ref h_t_beside, .int t_stones, .ref h_t_slot, .int t_kept, .int t_done, .int t_rows, .ref h_t_row, .ref h_t_free, .int t_frees, .ref h_t_worth, .ref h_t_fore, .ref h_t_back, .int t_fewest, .ref h_t_got])), (h_t_told, jI D 8 t_told_), (h_t_touches, jZ D 32 t_touches_), (h_t_beside, jI D 9 t_beside_), (h_t_slot, jI D 240 t_slot_), (h_t_free, jI D 9 t_free_)]) rfl rfl rfl rfl rfl (Nat.le_of_ble_eq_true rfl) dX10_scrape_4 ?_
  refine j_if_ne C (tgt := 12) dX10_scrape_7 (by decide) h (fun c3 h => ?_) (fun c3 h => ?_)
  · refine j_iconst C dX10_scrape_10 (v := (-1 : Int32)) (by decide) ?_
    exact j_iretR C (r := r) (rtf := fun r => (some (.int r.1))) (wff := fun r => (oX10_scrape D h_t h_t_text h_t_told h_t_touches h_t_has h_t_old h_t_beside h_t_slot h_t_row h_t_free h_t_worth h_t_fore h_t_back h_t_got t_length t_at t_stones t_kept t_done t_rows t_told_ t_touches_ t_beside_ r)) E h rfl rfl dX10_scrape_11
  · refine j_bipush C dX10_scrape_12 (v := (-4 : Int32)) (by decide) ?_
    refine j_istore_nC C dX10_scrape_14 rfl (lv' := [(2, .int ((-4 : Int32))), (0, .ref h_t), (1, .int p1)]) (by decide) rfl ?_
    refine j_iconst C dX10_scrape_15 (v := (0 : Int32)) (by decide) ?_
    refine j_istore_nC C dX10_scrape_16 rfl (lv' := [(3, .int ((0 : Int32))), (2, .int ((-4 : Int32))), (0, .ref h_t), (1, .int p1)]) (by decide) rfl ?_
    refine j_sub (lv' := [(0, .ref h_t), (1, .int p1), (2, .int ((-4 : Int32))), (3, .int ((0 : Int32)))]) [2, 3, 1, 0] rfl ?_
    exact L17 ((-4 : Int32)) ((0 : Int32)) t_frees t_fewest t_slot_ t_free_ h
theorem dX10_matters_0 : decode cX10_matters 0 = .ok (.iconst 0, 1) := by decide +kernel
theorem dX10_matters_1 : decode cX10_matters 1 = .ok (.istore_n 1, 1) := by decide +kernel
theorem dX10_matters_2 : decode cX10_matters 2 = .ok (.aload_n 0, 1) := by decide +kernel
theorem dX10_matters_3 : decode cX10_matters 3 = .ok (.iconst 0, 1) := by decide +kernel
theorem dX10_matters_4 : decode cX10_matters 4 = .ok (.invokevirtual 171, 3) := by decide +kernel
theorem dX10_matters_7 : decode cX10_matters 7 = .ok (.ifCond .ne 51, 3) := by decide +kernel
theorem dX10_matters_10 : decode cX10_matters 10 = .ok (.iconst 0, 1) := by decide +kernel
theorem dX10_matters_11 : decode cX10_matters 11 = .ok (.istore_n 2, 1) := by decide +kernel
theorem dX10_matters_12 : decode cX10_matters 12 = .ok (.iload_n 2, 1) := by decide +kernel
theorem dX10_matters_13 : decode cX10_matters 13 = .ok (.aload_n 0, 1) := by decide +kernel
theorem dX10_matters_14 : decode cX10_matters 14 = .ok (.getfield 91, 3) := by decide +kernel
theorem dX10_matters_17 : decode cX10_matters 17 = .ok (.if_icmp .ge 41, 3) := by decide +kernel
theorem dX10_matters_20 : decode cX10_matters 20 = .ok (.iload_n 1, 1) := by decide +kernel
theorem dX10_matters_21 : decode cX10_matters 21 = .ok (.aload_n 0, 1) := by decide +kernel
theorem dX10_matters_22 : decode cX10_matters 22 = .ok (.invokevirtual 168, 3) := by decide +kernel
theorem dX10_matters_25 : decode cX10_matters 25 = .ok (.iload_n 2, 1) := by decide +kernel
theorem dX10_matters_26 : decode cX10_matters 26 = .ok (.ishr, 1) := by decide +kernel
theorem dX10_matters_27 : decode cX10_matters 27 = .ok (.iconst 1, 1) := by decide +kernel
theorem dX10_matters_28 : decode cX10_matters 28 = .ok (.iand, 1) := by decide +kernel
theorem dX10_matters_29 : decode cX10_matters 29 = .ok (.iconst 1, 1) := by decide +kernel
theorem dX10_matters_30 : decode cX10_matters 30 = .ok (.if_icmp .ne 19, 3) := by decide +kernel
theorem dX10_matters_33 : decode cX10_matters 33 = .ok (.aload_n 0, 1) := by decide +kernel
theorem dX10_matters_34 : decode cX10_matters 34 = .ok (.iconst 1, 1) := by decide +kernel
theorem dX10_matters_35 : decode cX10_matters 35 = .ok (.iload_n 2, 1) := by decide +kernel
theorem dX10_matters_36 : decode cX10_matters 36 = .ok (.ishl, 1) := by decide +kernel
theorem dX10_matters_37 : decode cX10_matters 37 = .ok (.invokevirtual 171, 3) := by decide +kernel
theorem dX10_matters_40 : decode cX10_matters 40 = .ok (.ifCond .le 9, 3) := by decide +kernel
theorem dX10_matters_43 : decode cX10_matters 43 = .ok (.iconst 1, 1) := by decide +kernel
theorem dX10_matters_44 : decode cX10_matters 44 = .ok (.iload_n 2, 1) := by decide +kernel
theorem dX10_matters_45 : decode cX10_matters 45 = .ok (.ishl, 1) := by decide +kernel
theorem dX10_matters_46 : decode cX10_matters 46 = .ok (.goto 4, 3) := by decide +kernel
theorem dX10_matters_49 : decode cX10_matters 49 = .ok (.iconst 0, 1) := by decide +kernel
theorem dX10_matters_50 : decode cX10_matters 50 = .ok (.ior, 1) := by decide +kernel
theorem dX10_matters_51 : decode cX10_matters 51 = .ok (.istore_n 1, 1) := by decide +kernel
theorem dX10_matters_52 : decode cX10_matters 52 = .ok (.iinc 2 1, 3) := by decide +kernel
theorem dX10_matters_55 : decode cX10_matters 55 = .ok (.goto (-43), 3) := by decide +kernel
theorem dX10_matters_58 : decode cX10_matters 58 = .ok (.iload_n 1, 1) := by decide +kernel
theorem dX10_matters_59 : decode cX10_matters 59 = .ok (.ireturn, 1) := by decide +kernel
def fX10_matters_50 (F : Nat) (t_stones : Int32) (t_told_ : Nat → Int32) (t_touches_ : Nat → Int32) (t_beside_ : Nat → Int32) (k12 : Int32 → Int32 → Int32 → Int32 → (Nat → Int32) → (Nat → Int32) → Option (Int32 × Int32 × Int32 × (Nat → Int32) × (Nat → Int32))) (x23 : Int32) (s24 : Int32) (s25 : Int32) (m_t_frees_26 : Int32) (m_t_fewest_27 : Int32) (m_t_slot__28 : Nat → Int32) (m_t_free__29 : Nat → Int32) : Option (Int32 × Int32 × Int32 × (Nat → Int32) × (Nat → Int32)) :=
(jl_let (s25 ||| s24) fun v30 =>
(jl_let (x23 + Int32.ofInt (1)) fun v31 =>
(k12 v30 v31 m_t_frees_26 m_t_fewest_27 m_t_slot__28 m_t_free__29)))
def fX10_matters_49 (F : Nat) (t_stones : Int32) (t_told_ : Nat → Int32) (t_touches_ : Nat → Int32) (t_beside_ : Nat → Int32) (k12 : Int32 → Int32 → Int32 → Int32 → (Nat → Int32) → (Nat → Int32) → Option (Int32 × Int32 × Int32 × (Nat → Int32) × (Nat → Int32))) (x17 : Int32) (s18 : Int32) (m_t_frees_19 : Int32) (m_t_fewest_20 : Int32) (m_t_slot__21 : Nat → Int32) (m_t_free__22 : Nat → Int32) : Option (Int32 × Int32 × Int32 × (Nat → Int32) × (Nat → Int32)) :=
(fX10_matters_50 F t_stones t_told_ t_touches_ t_beside_ k12 x17 ((0 : Int32)) s18 m_t_frees_19 m_t_fewest_20 m_t_slot__21 m_t_free__22)
def bX10_matters_12 (F : Nat) (t_stones : Int32) (t_told_ : Nat → Int32) (t_touches_ : Nat → Int32) (t_beside_ : Nat → Int32)  (k12 : Int32 → Int32 → Int32 → Int32 → (Nat → Int32) → (Nat → Int32) → Option (Int32 × Int32 × Int32 × (Nat → Int32) × (Nat → Int32))) (x4 : Int32) (x5 : Int32) (m_t_frees_6 : Int32) (m_t_fewest_7 : Int32) (m_t_slot__8 : Nat → Int32) (m_t_free__9 : Nat → Int32) : Option (Int32 × Int32 × Int32 × (Nat → Int32) × (Nat → Int32)) :=
(if t_stones ≤ x5 then
(some (x4, m_t_frees_6, m_t_fewest_7, m_t_slot__8, m_t_free__9))
else
((fX10_fresh F m_t_slot__8).bind fun r11 =>
(if ((r11 >>> (x5 &&& 31)) &&& ((1 : Int32))) = ((1 : Int32)) then
((fX10_without F t_stones m_t_frees_6 m_t_fewest_7 t_told_ t_touches_ t_beside_ m_t_slot__8 m_t_free__9 (((1 : Int32)) <<< (x5 &&& 31))).bind fun r14 =>
(if r14.1 ≤ 0 then
(fX10_matters_49 F t_stones t_told_ t_touches_ t_beside_ k12 x5 x4 r14.2.1 r14.2.2.1 r14.2.2.2.1 r14.2.2.2.2)
else
(fX10_matters_50 F t_stones t_told_ t_touches_ t_beside_ k12 x5 (((1 : Int32)) <<< (x5 &&& 31)) x4 r14.2.1 r14.2.2.1 r14.2.2.2.1 r14.2.2.2.2)))
else
(fX10_matters_49 F t_stones t_told_ t_touches_ t_beside_ k12 x5 x4 m_t_frees_6 m_t_fewest_7 m_t_slot__8 m_t_free__9))))
def lX10_matters_12 (F : Nat) (t_stones : Int32) (t_told_ : Nat → Int32) (t_touches_ : Nat → Int32) (t_beside_ : Nat → Int32)  (F2 : Nat) (x4 : Int32) (x5 : Int32) (m_t_frees_6 : Int32) (m_t_fewest_7 : Int32) (m_t_slot__8 : Nat → Int32) (m_t_free__9 : Nat → Int32) : Option (Int32 × Int32 × Int32 × (Nat → Int32) × (Nat → Int32)) := jl_loop6 (bX10_matters_12 F t_stones t_told_ t_touches_ t_beside_ ) F2 x4 x5 m_t_frees_6 m_t_fewest_7 m_t_slot__8 m_t_free__9
def fX10_matters (F : Nat) (t_stones : Int32) (t_frees : Int32) (t_fewest : Int32) (t_told_ : Nat → Int32) (t_touches_ : Nat → Int32) (t_beside_ : Nat → Int32) (t_slot_ : Nat → Int32) (t_free_ : Nat → Int32) : Option (Int32 × Int32 × Int32 × (Nat → Int32) × (Nat → Int32)) :=
((fX10_without F t_stones t_frees t_fewest t_told_ t_touches_ t_beside_ t_slot_ t_free_ ((0 : Int32))).bind fun r1 =>
(if r1.1 = 0 then
(lX10_matters_12 F t_stones t_told_ t_touches_ t_beside_ F ((0 : Int32)) ((0 : Int32)) r1.2.1 r1.2.2.1 r1.2.2.2.1 r1.2.2.2.2)
else
(some ((0 : Int32), r1.2.1, r1.2.2.1, r1.2.2.2.1, r1.2.2.2.2))))
def oX10_matters (D : jv_D) (h_t : Nat) (h_t_text : Nat) (h_t_told : Nat) (h_t_touches : Nat) (h_t_has : Nat) (h_t_old : Nat) (h_t_beside : Nat) (h_t_slot : Nat) (h_t_row : Nat) (h_t_free : Nat) (h_t_worth : Nat) (h_t_fore : Nat) (h_t_back : Nat) (h_t_got : Nat) (t_length : Int32) (t_at : Int32) (t_stones : Int32) (t_kept : Int32) (t_done : Int32) (t_rows : Int32) (t_told_ : Nat → Int32) (t_touches_ : Nat → Int32) (t_beside_ : Nat → Int32) (r : Int32 × Int32 × Int32 × (Nat → Int32) × (Nat → Int32)) : va_W := [(h_t, .inr (8, [.int t_length, .ref h_t_text, .int t_at, .ref h_t_told, .ref h_t_touches, .ref h_t_has, .ref h_t_old, .ref h_t_beside, .int t_stones, .ref h_t_slot, .int t_kept, .int t_done, .int t_rows, .ref h_t_row, .ref h_t_free, .int r.2.1, .ref h_t_worth, .ref h_t_fore, .ref h_t_back, .int r.2.2.1, .ref h_t_got])), (h_t_told, jI D 8 t_told_), (h_t_touches, jZ D 32 t_touches_), (h_t_beside, jI D 9 t_beside_), (h_t_slot, jI D 240 r.2.2.2.1), (h_t_free, jI D 9 r.2.2.2.2)]
set_option maxHeartbeats 40000000 in
set_option maxRecDepth 100000 in
theorem mX10_matters (l : Launch) (D : jv_D) (F : Nat) (h_t : Nat) (h_t_text : Nat) (h_t_told : Nat) (h_t_touches : Nat) (h_t_has : Nat) (h_t_old : Nat) (h_t_beside : Nat) (h_t_slot : Nat) (h_t_row : Nat) (h_t_free : Nat) (h_t_worth : Nat) (h_t_fore : Nat) (h_t_back : Nat) (h_t_got : Nat) (t_length : Int32) (t_at : Int32) (t_stones : Int32) (t_kept : Int32) (t_done : Int32) (t_rows : Int32) (t_frees : Int32) (t_fewest : Int32) (t_told_ : Nat → Int32) (t_touches_ : Nat → Int32) (t_beside_ : Nat → Int32) (t_slot_ : Nat → Int32) (t_free_ : Nat → Int32) (r : Int32 × Int32 × Int32 × (Nat → Int32) × (Nat → Int32)) (h : fX10_matters F t_stones t_frees t_fewest t_told_ t_touches_ t_beside_ t_slot_ t_free_ = some r) : MM l yX10_matters (jW yX10_matters cX10_matters 3 (some .int)) ({ frames := 4, cells := 0, slots := 0, locals := 94 }) D [.ref h_t] [(h_t, .inr (8, [.int t_length, .ref h_t_text, .int t_at, .ref h_t_told, .ref h_t_touches, .ref h_t_has, .ref h_t_old, .ref h_t_beside, .int t_stones, .ref h_t_slot, .int t_kept, .int t_done, .int t_rows, .ref h_t_row, .ref h_t_free, .int t_frees, .ref h_t_worth, .ref h_t_fore, .ref h_t_back, .int t_fewest, .ref h_t_got])), (h_t_told, jI D 8 t_told_), (h_t_touches, jZ D 32 t_touches_), (h_t_beside, jI D 9 t_beside_), (h_t_slot, jI D 240 t_slot_), (h_t_free, jI D 9 t_free_)] (some (.int r.1)) (oX10_matters D h_t h_t_text h_t_told h_t_touches h_t_has h_t_old h_t_beside h_t_slot h_t_row h_t_free h_t_worth h_t_fore h_t_back h_t_got t_length t_at t_stones t_kept t_done t_rows t_told_ t_touches_ t_beside_ r) := by
  refine mn_of hpX10_matters (Nat.le_of_ble_eq_true rfl) ?_
  intro X hXl C E0 hN
  subst hXl
  replace C : JC D X 3 RX10 cX10_matters ({ frames := 4, cells := 0, slots := 0, locals := 94 }) := C
  have E : JE D X 0 0 (some .int) (fun _ : Unit => (some (.int r.1))) (fun _ : Unit => (oX10_matters D h_t h_t_text h_t_told h_t_touches h_t_has h_t_old h_t_beside h_t_slot h_t_row h_t_free h_t_worth h_t_fore h_t_back h_t_got t_length t_at t_stones t_kept t_done t_rows t_told_ t_touches_ t_beside_ r)) := E0 0 0 rfl rfl
  clear E0 hN
  show JJ D X 3 0 0 0 [(0, .ref h_t)] [] [(h_t, .inr (8, [.int t_length, .ref h_t_text, .int t_at, .ref h_t_told, .ref h_t_touches, .ref h_t_has, .ref h_t_old, .ref h_t_beside, .int t_stones, .ref h_t_slot, .int t_kept, .int t_done, .int t_rows, .ref h_t_row, .ref h_t_free, .int t_frees, .ref h_t_worth, .ref h_t_fore, .ref h_t_back, .int t_fewest, .ref h_t_got])), (h_t_told, jI D 8 t_told_), (h_t_touches, jZ D 32 t_touches_), (h_t_beside, jI D 9 t_beside_), (h_t_slot, jI D 240 t_slot_), (h_t_free, jI D 9 t_free_)]
  unfold fX10_matters at h
  have L12 : ∀ (x4 : Int32) (x5 : Int32) (m_t_frees_6 : Int32) (m_t_fewest_7 : Int32) (m_t_slot__8 : Nat → Int32) (m_t_free__9 : Nat → Int32), lX10_matters_12 F t_stones t_told_ t_touches_ t_beside_  F x4 x5 m_t_frees_6 m_t_fewest_7 m_t_slot__8 m_t_free__9 = some r → JJ D X 3 0 0 12 [(0, .ref h_t), (1, .int x4), (2, .int x5)] [] [(h_t, .inr (8, [.int t_length, .ref h_t_text, .int t_at, .ref h_t_told, .ref h_t_touches, .ref h_t_has, .ref h_t_old, .ref h_t_beside, .int t_stones, .ref h_t_slot, .int t_kept, .int t_done, .int t_rows, .ref h_t_row, .ref h_t_free, .int m_t_frees_6, .ref h_t_worth, .ref h_t_fore, .ref h_t_back, .int m_t_fewest_7, .ref h_t_got])), (h_t_told, jI D 8 t_told_), (h_t_touches, jZ D 32 t_touches_), (h_t_beside, jI D 9 t_beside_), (h_t_slot, jI D 240 m_t_slot__8), (h_t_free, jI D 9 m_t_free__9)] := by
    intro x4 x5 m_t_frees_6 m_t_fewest_7 m_t_slot__8 m_t_free__9 h
    refine jl_ind6 (fun x4 x5 m_t_frees_6 m_t_fewest_7 m_t_slot__8 m_t_free__9 => JJ D X 3 0 0 12 [(0, .ref h_t), (1, .int x4), (2, .int x5)] [] [(h_t, .inr (8, [.int t_length, .ref h_t_text, .int t_at, .ref h_t_told, .ref h_t_touches, .ref h_t_has, .ref h_t_old, .ref h_t_beside, .int t_stones, .ref h_t_slot, .int t_kept, .int t_done, .int t_rows, .ref h_t_row, .ref h_t_free, .int m_t_frees_6, .ref h_t_worth, .ref h_t_fore, .ref h_t_back, .int m_t_fewest_7, .ref h_t_got])), (h_t_told, jI D 8 t_told_), (h_t_touches, jZ D 32 t_touches_), (h_t_beside, jI D 9 t_beside_), (h_t_slot, jI D 240 m_t_slot__8), (h_t_free, jI D 9 m_t_free__9)]) ?_ F x4 x5 m_t_frees_6 m_t_fewest_7 m_t_slot__8 m_t_free__9 h
    clear h x4 x5 m_t_frees_6 m_t_fewest_7 m_t_slot__8 m_t_free__9
    intro k12 i12 x4 x5 m_t_frees_6 m_t_fewest_7 m_t_slot__8 m_t_free__9 h
    replace i12 : ∀ (x4 : Int32) (x5 : Int32) (m_t_frees_6 : Int32) (m_t_fewest_7 : Int32) (m_t_slot__8 : Nat → Int32) (m_t_free__9 : Nat → Int32), k12 x4 x5 m_t_frees_6 m_t_fewest_7 m_t_slot__8 m_t_free__9 = some r → JJ D X 3 0 0 12 [(0, .ref h_t), (1, .int x4), (2, .int x5)] [] [(h_t, .inr (8, [.int t_length, .ref h_t_text, .int t_at, .ref h_t_told, .ref h_t_touches, .ref h_t_has, .ref h_t_old, .ref h_t_beside, .int t_stones, .ref h_t_slot, .int t_kept, .int t_done, .int t_rows, .ref h_t_row, .ref h_t_free, .int m_t_frees_6, .ref h_t_worth, .ref h_t_fore, .ref h_t_back, .int m_t_fewest_7, .ref h_t_got])), (h_t_told, jI D 8 t_told_), (h_t_touches, jZ D 32 t_touches_), (h_t_beside, jI D 9 t_beside_), (h_t_slot, jI D 240 m_t_slot__8), (h_t_free, jI D 9 m_t_free__9)] := i12
    show JJ D X 3 0 0 12 [(0, .ref h_t), (1, .int x4), (2, .int x5)] [] [(h_t, .inr (8, [.int t_length, .ref h_t_text, .int t_at, .ref h_t_told, .ref h_t_touches, .ref h_t_has, .ref h_t_old, .ref h_t_beside, .int t_stones, .ref h_t_slot, .int t_kept, .int t_done, .int t_rows, .ref h_t_row, .ref h_t_free, .int m_t_frees_6, .ref h_t_worth, .ref h_t_fore, .ref h_t_back, .int m_t_fewest_7, .ref h_t_got])), (h_t_told, jI D 8 t_told_), (h_t_touches, jZ D 32 t_touches_), (h_t_beside, jI D 9 t_beside_), (h_t_slot, jI D 240 m_t_slot__8), (h_t_free, jI D 9 m_t_free__9)]
    unfold bX10_matters_12 at h
    have L50 : ∀ (x23 : Int32) (s24 : Int32) (s25 : Int32) (m_t_frees_26 : Int32) (m_t_fewest_27 : Int32) (m_t_slot__28 : Nat → Int32) (m_t_free__29 : Nat → Int32), fX10_matters_50 F t_stones t_told_ t_touches_ t_beside_ k12 x23 s24 s25 m_t_frees_26 m_t_fewest_27 m_t_slot__28 m_t_free__29 = some r → JJ D X 3 0 0 50 [(0, .ref h_t), (2, .int x23)] [.int s24, .int s25] [(h_t, .inr (8, [.int t_length, .ref h_t_text, .int t_at, .ref h_t_told, .ref h_t_touches, .ref h_t_has, .ref h_t_old, .ref h_t_beside, .int t_stones, .ref h_t_slot, .int t_kept, .int t_done, .int t_rows, .ref h_t_row, .ref h_t_free, .int m_t_frees_26, .ref h_t_worth, .ref h_t_fore, .ref h_t_back, .int m_t_fewest_27, .ref h_t_got])), (h_t_told, jI D 8 t_told_), (h_t_touches, jZ D 32 t_touches_), (h_t_beside, jI D 9 t_beside_), (h_t_slot, jI D 240 m_t_slot__28), (h_t_free, jI D 9 m_t_free__29)] := by
      intro x23 s24 s25 m_t_frees_26 m_t_fewest_27 m_t_slot__28 m_t_free__29 h
      unfold fX10_matters_50 at h
      refine j_ior C dX10_matters_50 ?_
      refine j_istore_n C dX10_matters_51 rfl (lv' := fun v30 => [(1, .int v30), (0, .ref h_t), (2, .int x23)]) (by decide) (fun _ => rfl) h (fun v30 h => ?_)
      refine j_iinc C dX10_matters_52 2 rfl (lv' := fun v31 => [(2, .int v31), (1, .int v30), (0, .ref h_t)]) (by decide) (fun _ => rfl) h (fun v31 h => ?_)
      refine j_goto C dX10_matters_55 (tgt := 12) (by decide) ?_
      refine j_sub (lv' := [(0, .ref h_t), (1, .int v30), (2, .int v31)]) [2, 1, 0] rfl ?_
      exact i12 v30 v31 m_t_frees_26 m_t_fewest_27 m_t_slot__28 m_t_free__29 h
    have L49 : ∀ (x17 : Int32) (s18 : Int32) (m_t_frees_19 : Int32) (m_t_fewest_20 : Int32) (m_t_slot__21 : Nat → Int32) (m_t_free__22 : Nat → Int32), fX10_matters_49 F t_stones t_told_ t_touches_ t_beside_ k12 x17 s18 m_t_frees_19 m_t_fewest_20 m_t_slot__21 m_t_free__22 = some r → JJ D X 3 0 0 49 [(0, .ref h_t), (2, .int x17)] [.int s18] [(h_t, .inr (8, [.int t_length, .ref h_t_text, .int t_at, .ref h_t_told, .ref h_t_touches, .ref h_t_has, .ref h_t_old, .ref h_t_beside, .int t_stones, .ref h_t_slot, .int t_kept, .int t_done, .int t_rows, .ref h_t_row, .ref h_t_free, .int m_t_frees_19, .ref h_t_worth, .ref h_t_fore, .ref h_t_back, .int m_t_fewest_20, .ref h_t_got])), (h_t_told, jI D 8 t_told_), (h_t_touches, jZ D 32 t_touches_), (h_t_beside, jI D 9 t_beside_), (h_t_slot, jI D 240 m_t_slot__21), (h_t_free, jI D 9 m_t_free__22)] := by
      intro x17 s18 m_t_frees_19 m_t_fewest_20 m_t_slot__21 m_t_free__22 h
      unfold fX10_matters_49 at h
      refine j_iconst C dX10_matters_49 (v := (0 : Int32)) (by decide) ?_
      refine j_sub (lv' := [(0, .ref h_t), (2, .int x17)]) [0, 1] rfl ?_
      exact L50 x17 ((0 : Int32)) s18 m_t_frees_19 m_t_fewest_20 m_t_slot__21 m_t_free__22 h
    refine j_iload_n C dX10_matters_12 rfl 2 rfl ?_
    refine j_aload_n C dX10_matters_13 rfl 0 rfl ?_
    refine j_get C ibX10 (ci := 8) 0 rfl rfl 8 (by decide) bfX10_91 (v := .int t_stones) rfl dX10_matters_14 ?_
    refine j_icmp_ge C (tgt := 58) dX10_matters_17 (by decide) h (fun c10 h => ?_) (fun c10 h => ?_)
    · refine j_iload_n C dX10_matters_58 rfl 1 rfl ?_
      exact j_iretR C (r := r) (rtf := fun r => (some (.int r.1))) (wff := fun r => (oX10_matters D h_t h_t_text h_t_told h_t_touches h_t_has h_t_old h_t_beside h_t_slot h_t_row h_t_free h_t_worth h_t_fore h_t_back h_t_got t_length t_at t_stones t_kept t_done t_rows t_told_ t_touches_ t_beside_ r)) E h rfl rfl dX10_matters_59
    · refine j_iload_n C dX10_matters_20 rfl 1 rfl ?_
      refine j_aload_n C dX10_matters_21 rfl 0 rfl ?_
      obtain ⟨r11, q12, h⟩ := jl_bind h
      refine j_cV1 C (mX10_fresh (jlaunch X) D F h_t h_t_text h_t_told h_t_touches h_t_has h_t_old h_t_beside h_t_slot h_t_row h_t_free h_t_worth h_t_fore h_t_back h_t_got t_length t_at t_stones t_kept t_done t_rows m_t_frees_6 m_t_fewest_7 m_t_slot__8 r11 q12) bmX10_168 biX10_fresh bsX10_fresh bzX10 bcX10_fresh rfl hX10_fresh (rest := [.int x4]) rfl (jroom_of rfl) 0 (ci := 8) rfl rfl rfl [0, 4] [1, 2, 3, 5] [4, 0, 1, 2, 5, 3] (wr := [(h_t_told, jI D 8 t_told_), (h_t_touches, jZ D 32 t_touches_), (h_t_beside, jI D 9 t_beside_), (h_t_free, jI D 9 m_t_free__9)]) (ws2 := [(h_t, .inr (8, [.int t_length, .ref h_t_text, .int t_at, .ref h_t_told, .ref h_t_touches, .ref h_t_has, .ref h_t_old, .ref h_t_beside, .int t_stones, .ref h_t_slot, .int t_kept, .int t_done, .int t_rows, .ref h_t_row, .ref h_t_free, .int m_t_frees_6, .ref h_t_worth, .ref h_t_fore, .ref h_t_back, .int m_t_fewest_7, .ref h_t_got])), (h_t_told, jI D 8 t_told_), (h_t_touches, jZ D 32 t_touches_), (h_t_beside, jI D 9 t_beside_), (h_t_slot, jI D 240 m_t_slot__8), (h_t_free, jI D 9 m_t_free__9)]) rfl rfl rfl rfl rfl (Nat.le_of_ble_eq_true rfl) dX10_matters_22 ?_
      refine j_iload_n C dX10_matters_25 rfl 2 rfl ?_
      refine j_ishr C dX10_matters_26 ?_
      refine j_iconst C dX10_matters_27 (v := (1 : Int32)) (by decide) ?_
      refine j_iand C dX10_matters_28 ?_
      refine j_iconst C dX10_matters_29 (v := (1 : Int32)) (by decide) ?_
      refine j_icmp_ne C (tgt := 49) dX10_matters_30 (by decide) h (fun c13 h => ?_) (fun c13 h => ?_)
      · refine j_aload_n C dX10_matters_33 rfl 0 rfl ?_
        refine j_iconst C dX10_matters_34 (v := (1 : Int32)) (by decide) ?_
        refine j_iload_n C dX10_matters_35 rfl 2 rfl ?_
        refine j_ishl C dX10_matters_36 ?_
        obtain ⟨r14, q15, h⟩ := jl_bind h
        refine j_cV1 C (mX10_without (jlaunch X) D F h_t h_t_text h_t_told h_t_touches h_t_has h_t_old h_t_beside h_t_slot h_t_row h_t_free h_t_worth h_t_fore h_t_back h_t_got t_length t_at t_stones t_kept t_done t_rows m_t_frees_6 m_t_fewest_7 t_told_ t_touches_ t_beside_ m_t_slot__8 m_t_free__9 (((1 : Int32)) <<< (x5 &&& 31)) r14 q15) bmX10_171 biX10_without bsX10_without bzX10 bcX10_without rfl hX10_without (rest := [.int x4]) rfl (jroom_of rfl) 0 (ci := 8) rfl rfl rfl [0, 1, 2, 3, 4, 5] [] [0, 1, 2, 3, 4, 5] (wr := []) (ws2 := [(h_t, .inr (8, [.int t_length, .ref h_t_text, .int t_at, .ref h_t_told, .ref h_t_touches, .ref h_t_has, .ref h_t_old, .ref h_t_beside, .int t_stones, .ref h_t_slot, .int t_kept, .int t_done, .int t_rows, .ref h_t_row, .ref h_t_free, .int r14.2.1, .ref h_t_worth, .ref h_t_fore, .ref h_t_back, .int r14.2.2.1, .ref h_t_got])), (h_t_told, jI D 8 t_told_), (h_t_touches, jZ D 32 t_touches_), (h_t_beside, jI D 9 t_beside_), (h_t_slot, jI D 240 r14.2.2.2.1), (h_t_free, jI D 9 r14.2.2.2.2)]) rfl rfl rfl rfl rfl (Nat.le_of_ble_eq_true rfl) dX10_matters_37 ?_
        refine j_if_le C (tgt := 49) dX10_matters_40 (by decide) h (fun c16 h => ?_) (fun c16 h => ?_)
        · refine j_sub (lv' := [(0, .ref h_t), (2, .int x5)]) [0, 2] rfl ?_
          exact L49 x5 x4 r14.2.1 r14.2.2.1 r14.2.2.2.1 r14.2.2.2.2 h
        · refine j_iconst C dX10_matters_43 (v := (1 : Int32)) (by decide) ?_
          refine j_iload_n C dX10_matters_44 rfl 2 rfl ?_
          refine j_ishl C dX10_matters_45 ?_
          refine j_goto C dX10_matters_46 (tgt := 50) (by decide) ?_
          refine j_sub (lv' := [(0, .ref h_t), (2, .int x5)]) [0, 2] rfl ?_
          exact L50 x5 (((1 : Int32)) <<< (x5 &&& 31)) x4 r14.2.1 r14.2.2.1 r14.2.2.2.1 r14.2.2.2.2 h
      · refine j_sub (lv' := [(0, .ref h_t), (2, .int x5)]) [0, 2] rfl ?_
        exact L49 x5 x4 m_t_frees_6 m_t_fewest_7 m_t_slot__8 m_t_free__9 h
  refine j_iconst C dX10_matters_0 (v := (0 : Int32)) (by decide) ?_
  refine j_istore_nC C dX10_matters_1 rfl (lv' := [(1, .int ((0 : Int32))), (0, .ref h_t)]) (by decide) rfl ?_
  refine j_aload_n C dX10_matters_2 rfl 1 rfl ?_
  refine j_iconst C dX10_matters_3 (v := (0 : Int32)) (by decide) ?_
  obtain ⟨r1, q2, h⟩ := jl_bind h
  refine j_cV1 C (mX10_without (jlaunch X) D F h_t h_t_text h_t_told h_t_touches h_t_has h_t_old h_t_beside h_t_slot h_t_row h_t_free h_t_worth h_t_fore h_t_back h_t_got t_length t_at t_stones t_kept t_done t_rows t_frees t_fewest t_told_ t_touches_ t_beside_ t_slot_ t_free_ ((0 : Int32)) r1 q2) bmX10_171 biX10_without bsX10_without bzX10 bcX10_without rfl hX10_without (rest := []) rfl (jroom_of rfl) 0 (ci := 8) rfl rfl rfl [0, 1, 2, 3, 4, 5] [] [0, 1, 2, 3, 4, 5] (wr := []) (ws2 := [(h_t, .inr (8, [.int t_length, .ref h_t_text, .int t_at, .ref h_t_told, .ref h_t_touches, .ref h_t_has, .ref h_t_old, .ref h_t_beside, .int t_stones, .ref h_t_slot, .int t_kept, .int t_done, .int t_rows, .ref h_t_row, .ref h_t_free, .int r1.2.1, .ref h_t_worth, .ref h_t_fore, .ref h_t_back, .int r1.2.2.1, .ref h_t_got])), (h_t_told, jI D 8 t_told_), (h_t_touches, jZ D 32 t_touches_), (h_t_beside, jI D 9 t_beside_), (h_t_slot, jI D 240 r1.2.2.2.1), (h_t_free, jI D 9 r1.2.2.2.2)]) rfl rfl rfl rfl rfl (Nat.le_of_ble_eq_true rfl) dX10_matters_4 ?_
  refine j_if_ne C (tgt := 58) dX10_matters_7 (by decide) h (fun c3 h => ?_) (fun c3 h => ?_)
  · refine j_iconst C dX10_matters_10 (v := (0 : Int32)) (by decide) ?_
    refine j_istore_nC C dX10_matters_11 rfl (lv' := [(2, .int ((0 : Int32))), (1, .int ((0 : Int32))), (0, .ref h_t)]) (by decide) rfl ?_
    refine j_sub (lv' := [(0, .ref h_t), (1, .int ((0 : Int32))), (2, .int ((0 : Int32)))]) [2, 1, 0] rfl ?_
    exact L12 ((0 : Int32)) ((0 : Int32)) r1.2.1 r1.2.2.1 r1.2.2.2.1 r1.2.2.2.2 h
  · refine j_iload_n C dX10_matters_58 rfl 0 rfl ?_
    exact j_iretR C (r := r) (rtf := fun r => (some (.int r.1))) (wff := fun r => (oX10_matters D h_t h_t_text h_t_told h_t_touches h_t_has h_t_old h_t_beside h_t_slot h_t_row h_t_free h_t_worth h_t_fore h_t_back h_t_got t_length t_at t_stones t_kept t_done t_rows t_told_ t_touches_ t_beside_ r)) E h rfl rfl dX10_matters_59
theorem dX10_fills_0 : decode cX10_fills 0 = .ok (.iload_n 1, 1) := by decide +kernel
theorem dX10_fills_1 : decode cX10_fills 1 = .ok (.istore_n 3, 1) := by decide +kernel
theorem dX10_fills_2 : decode cX10_fills 2 = .ok (.iconst 0, 1) := by decide +kernel
theorem dX10_fills_3 : decode cX10_fills 3 = .ok (.istore 4, 2) := by decide +kernel
theorem dX10_fills_5 : decode cX10_fills 5 = .ok (.aload_n 0, 1) := by decide +kernel
theorem dX10_fills_6 : decode cX10_fills 6 = .ok (.getfield 147, 3) := by decide +kernel
theorem dX10_fills_9 : decode cX10_fills 9 = .ok (.iconst 1, 1) := by decide +kernel
theorem dX10_fills_10 : decode cX10_fills 10 = .ok (.isub, 1) := by decide +kernel
theorem dX10_fills_11 : decode cX10_fills 11 = .ok (.istore 5, 2) := by decide +kernel
theorem dX10_fills_13 : decode cX10_fills 13 = .ok (.iload 5, 2) := by decide +kernel
theorem dX10_fills_15 : decode cX10_fills 15 = .ok (.ifCond .lt 48, 3) := by decide +kernel
theorem dX10_fills_18 : decode cX10_fills 18 = .ok (.aload_n 0, 1) := by decide +kernel
theorem dX10_fills_19 : decode cX10_fills 19 = .ok (.getfield 30, 3) := by decide +kernel
theorem dX10_fills_22 : decode cX10_fills 22 = .ok (.sipush 220, 3) := by decide +kernel
theorem dX10_fills_25 : decode cX10_fills 25 = .ok (.aload_n 0, 1) := by decide +kernel
theorem dX10_fills_26 : decode cX10_fills 26 = .ok (.getfield 36, 3) := by decide +kernel
theorem dX10_fills_29 : decode cX10_fills 29 = .ok (.iload 5, 2) := by decide +kernel
theorem dX10_fills_31 : decode cX10_fills 31 = .ok (.iaload, 1) := by decide +kernel
theorem dX10_fills_32 : decode cX10_fills 32 = .ok (.iadd, 1) := by decide +kernel
theorem dX10_fills_33 : decode cX10_fills 33 = .ok (.iload_n 3, 1) := by decide +kernel
theorem dX10_fills_34 : decode cX10_fills 34 = .ok (.iconst 4, 1) := by decide +kernel
theorem dX10_fills_35 : decode cX10_fills 35 = .ok (.irem, 1) := by decide +kernel
theorem dX10_fills_36 : decode cX10_fills 36 = .ok (.iastore, 1) := by decide +kernel
theorem dX10_fills_37 : decode cX10_fills 37 = .ok (.iload 4, 2) := by decide +kernel
theorem dX10_fills_39 : decode cX10_fills 39 = .ok (.iload_n 3, 1) := by decide +kernel
theorem dX10_fills_40 : decode cX10_fills 40 = .ok (.iconst 4, 1) := by decide +kernel
theorem dX10_fills_41 : decode cX10_fills 41 = .ok (.irem, 1) := by decide +kernel
theorem dX10_fills_42 : decode cX10_fills 42 = .ok (.ifCond .le 7, 3) := by decide +kernel
theorem dX10_fills_45 : decode cX10_fills 45 = .ok (.iconst 1, 1) := by decide +kernel
theorem dX10_fills_46 : decode cX10_fills 46 = .ok (.goto 4, 3) := by decide +kernel
theorem dX10_fills_49 : decode cX10_fills 49 = .ok (.iconst 0, 1) := by decide +kernel
theorem dX10_fills_50 : decode cX10_fills 50 = .ok (.iadd, 1) := by decide +kernel
theorem dX10_fills_51 : decode cX10_fills 51 = .ok (.istore 4, 2) := by decide +kernel
theorem dX10_fills_53 : decode cX10_fills 53 = .ok (.iload_n 3, 1) := by decide +kernel
theorem dX10_fills_54 : decode cX10_fills 54 = .ok (.iconst 4, 1) := by decide +kernel
theorem dX10_fills_55 : decode cX10_fills 55 = .ok (.idiv, 1) := by decide +kernel
theorem dX10_fills_56 : decode cX10_fills 56 = .ok (.istore_n 3, 1) := by decide +kernel
theorem dX10_fills_57 : decode cX10_fills 57 = .ok (.iinc 5 (-1), 3) := by decide +kernel
theorem dX10_fills_60 : decode cX10_fills 60 = .ok (.goto (-47), 3) := by decide +kernel
theorem dX10_fills_63 : decode cX10_fills 63 = .ok (.aload_n 0, 1) := by decide +kernel
theorem dX10_fills_64 : decode cX10_fills 64 = .ok (.getfield 30, 3) := by decide +kernel
theorem dX10_fills_67 : decode cX10_fills 67 = .ok (.sipush 239, 3) := by decide +kernel
theorem dX10_fills_70 : decode cX10_fills 70 = .ok (.iload_n 2, 1) := by decide +kernel
theorem dX10_fills_71 : decode cX10_fills 71 = .ok (.iload 4, 2) := by decide +kernel
theorem dX10_fills_73 : decode cX10_fills 73 = .ok (.iadd, 1) := by decide +kernel
theorem dX10_fills_74 : decode cX10_fills 74 = .ok (.iconst 2, 1) := by decide +kernel
theorem dX10_fills_75 : decode cX10_fills 75 = .ok (.irem, 1) := by decide +kernel
theorem dX10_fills_76 : decode cX10_fills 76 = .ok (.iastore, 1) := by decide +kernel
theorem dX10_fills_77 : decode cX10_fills 77 = .ok (.return_, 1) := by decide +kernel
def fX10_fills_50 (F : Nat) (t_frees : Int32) (t_free_ : Nat → Int32) (p1 : Int32) (p2 : Int32) (k13 : Int32 → Int32 → Int32 → (Nat → Int32) → Option ((Nat → Int32))) (x12 : Int32) (x13 : Int32) (s14 : Int32) (s15 : Int32) (m_t_slot__16 : Nat → Int32) : Option ((Nat → Int32)) :=
(jl_let (s15 + s14) fun v17 =>
(jl_let (x12 / ((4 : Int32))) fun v18 =>
(jl_let (x13 + Int32.ofInt (-1)) fun v19 =>
(k13 v18 v17 v19 m_t_slot__16))))
def bX10_fills_13 (F : Nat) (t_frees : Int32) (t_free_ : Nat → Int32) (p1 : Int32) (p2 : Int32)  (k13 : Int32 → Int32 → Int32 → (Nat → Int32) → Option ((Nat → Int32))) (x2 : Int32) (x3 : Int32) (x4 : Int32) (m_t_slot__5 : Nat → Int32) : Option ((Nat → Int32)) :=
(if x4 < 0 then
(jl_let (upd m_t_slot__5 ((239 : Int32)).toNatClampNeg ((p2 + x3) - (p2 + x3) / ((2 : Int32)) * ((2 : Int32)))) fun g7 =>
(some (g7)))
else
(if x4 < 0 ∨ 9 ≤ x4.toNatClampNeg then none else
(if (((220 : Int32)) + (t_free_ x4.toNatClampNeg)) < 0 ∨ 240 ≤ (((220 : Int32)) + (t_free_ x4.toNatClampNeg)).toNatClampNeg then none else
(jl_let (upd m_t_slot__5 (((220 : Int32)) + (t_free_ x4.toNatClampNeg)).toNatClampNeg (x2 - x2 / ((4 : Int32)) * ((4 : Int32)))) fun g10 =>
(if (x2 - x2 / ((4 : Int32)) * ((4 : Int32))) ≤ 0 then
(fX10_fills_50 F t_frees t_free_ p1 p2 k13 x2 x4 ((0 : Int32)) x3 g10)
else
(fX10_fills_50 F t_frees t_free_ p1 p2 k13 x2 x4 ((1 : Int32)) x3 g10))))))
def lX10_fills_13 (F : Nat) (t_frees : Int32) (t_free_ : Nat → Int32) (p1 : Int32) (p2 : Int32)  (F2 : Nat) (x2 : Int32) (x3 : Int32) (x4 : Int32) (m_t_slot__5 : Nat → Int32) : Option ((Nat → Int32)) := jl_loop4 (bX10_fills_13 F t_frees t_free_ p1 p2 ) F2 x2 x3 x4 m_t_slot__5
def fX10_fills (F : Nat) (t_frees : Int32) (t_slot_ : Nat → Int32) (t_free_ : Nat → Int32) (p1 : Int32) (p2 : Int32) : Option ((Nat → Int32)) :=
(jl_let (t_frees - ((1 : Int32))) fun v1 =>
(lX10_fills_13 F t_frees t_free_ p1 p2 F p1 ((0 : Int32)) v1 t_slot_))
def oX10_fills (D : jv_D) (h_t : Nat) (h_t_text : Nat) (h_t_told : Nat) (h_t_touches : Nat) (h_t_has : Nat) (h_t_old : Nat) (h_t_beside : Nat) (h_t_slot : Nat) (h_t_row : Nat) (h_t_free : Nat) (h_t_worth : Nat) (h_t_fore : Nat) (h_t_back : Nat) (h_t_got : Nat) (t_length : Int32) (t_at : Int32) (t_stones : Int32) (t_kept : Int32) (t_done : Int32) (t_rows : Int32) (t_frees : Int32) (t_fewest : Int32) (t_free_ : Nat → Int32) (r : (Nat → Int32)) : va_W := [(h_t, .inr (8, [.int t_length, .ref h_t_text, .int t_at, .ref h_t_told, .ref h_t_touches, .ref h_t_has, .ref h_t_old, .ref h_t_beside, .int t_stones, .ref h_t_slot, .int t_kept, .int t_done, .int t_rows, .ref h_t_row, .ref h_t_free, .int t_frees, .ref h_t_worth, .ref h_t_fore, .ref h_t_back, .int t_fewest, .ref h_t_got])), (h_t_slot, jI D 240 r), (h_t_free, jI D 9 t_free_)]
set_option maxHeartbeats 40000000 in
set_option maxRecDepth 100000 in
theorem mX10_fills (l : Launch) (D : jv_D) (F : Nat) (h_t : Nat) (h_t_text : Nat) (h_t_told : Nat) (h_t_touches : Nat) (h_t_has : Nat) (h_t_old : Nat) (h_t_beside : Nat) (h_t_slot : Nat) (h_t_row : Nat) (h_t_free : Nat) (h_t_worth : Nat) (h_t_fore : Nat) (h_t_back : Nat) (h_t_got : Nat) (t_length : Int32) (t_at : Int32) (t_stones : Int32) (t_kept : Int32) (t_done : Int32) (t_rows : Int32) (t_frees : Int32) (t_fewest : Int32) (t_slot_ : Nat → Int32) (t_free_ : Nat → Int32) (p1 : Int32) (p2 : Int32) (r : (Nat → Int32)) (h : fX10_fills F t_frees t_slot_ t_free_ p1 p2 = some r) : MM l yX10_fills (jW yX10_fills cX10_fills 6 none) ({ frames := 0, cells := 0, slots := 0, locals := 0 }) D [.ref h_t, .int p1, .int p2] [(h_t, .inr (8, [.int t_length, .ref h_t_text, .int t_at, .ref h_t_told, .ref h_t_touches, .ref h_t_has, .ref h_t_old, .ref h_t_beside, .int t_stones, .ref h_t_slot, .int t_kept, .int t_done, .int t_rows, .ref h_t_row, .ref h_t_free, .int t_frees, .ref h_t_worth, .ref h_t_fore, .ref h_t_back, .int t_fewest, .ref h_t_got])), (h_t_slot, jI D 240 t_slot_), (h_t_free, jI D 9 t_free_)] none (oX10_fills D h_t h_t_text h_t_told h_t_touches h_t_has h_t_old h_t_beside h_t_slot h_t_row h_t_free h_t_worth h_t_fore h_t_back h_t_got t_length t_at t_stones t_kept t_done t_rows t_frees t_fewest t_free_ r) := by
  refine mn_of hpX10_fills (Nat.le_of_ble_eq_true rfl) ?_
  intro X hXl C E0 hN
  subst hXl
  replace C : JC D X 6 RX10 cX10_fills ({ frames := 0, cells := 0, slots := 0, locals := 0 }) := C
  have E : JE D X 0 0 none (fun _ : Unit => none) (fun _ : Unit => (oX10_fills D h_t h_t_text h_t_told h_t_touches h_t_has h_t_old h_t_beside h_t_slot h_t_row h_t_free h_t_worth h_t_fore h_t_back h_t_got t_length t_at t_stones t_kept t_done t_rows t_frees t_fewest t_free_ r)) := E0 0 0 rfl rfl
  clear E0 hN
  show JJ D X 6 0 0 0 [(0, .ref h_t), (1, .int p1), (2, .int p2)] [] [(h_t, .inr (8, [.int t_length, .ref h_t_text, .int t_at, .ref h_t_told, .ref h_t_touches, .ref h_t_has, .ref h_t_old, .ref h_t_beside, .int t_stones, .ref h_t_slot, .int t_kept, .int t_done, .int t_rows, .ref h_t_row, .ref h_t_free, .int t_frees, .ref h_t_worth, .ref h_t_fore, .ref h_t_back, .int t_fewest, .ref h_t_got])), (h_t_slot, jI D 240 t_slot_), (h_t_free, jI D 9 t_free_)]
  unfold fX10_fills at h
  have L13 : ∀ (x2 : Int32) (x3 : Int32) (x4 : Int32) (m_t_slot__5 : Nat → Int32), lX10_fills_13 F t_frees t_free_ p1 p2  F x2 x3 x4 m_t_slot__5 = some r → JJ D X 6 0 0 13 [(0, .ref h_t), (2, .int p2), (3, .int x2), (4, .int x3), (5, .int x4)] [] [(h_t, .inr (8, [.int t_length, .ref h_t_text, .int t_at, .ref h_t_told, .ref h_t_touches, .ref h_t_has, .ref h_t_old, .ref h_t_beside, .int t_stones, .ref h_t_slot, .int t_kept, .int t_done, .int t_rows, .ref h_t_row, .ref h_t_free, .int t_frees, .ref h_t_worth, .ref h_t_fore, .ref h_t_back, .int t_fewest, .ref h_t_got])), (h_t_slot, jI D 240 m_t_slot__5), (h_t_free, jI D 9 t_free_)] := by
    intro x2 x3 x4 m_t_slot__5 h
    refine jl_ind4 (fun x2 x3 x4 m_t_slot__5 => JJ D X 6 0 0 13 [(0, .ref h_t), (2, .int p2), (3, .int x2), (4, .int x3), (5, .int x4)] [] [(h_t, .inr (8, [.int t_length, .ref h_t_text, .int t_at, .ref h_t_told, .ref h_t_touches, .ref h_t_has, .ref h_t_old, .ref h_t_beside, .int t_stones, .ref h_t_slot, .int t_kept, .int t_done, .int t_rows, .ref h_t_row, .ref h_t_free, .int t_frees, .ref h_t_worth, .ref h_t_fore, .ref h_t_back, .int t_fewest, .ref h_t_got])), (h_t_slot, jI D 240 m_t_slot__5), (h_t_free, jI D 9 t_free_)]) ?_ F x2 x3 x4 m_t_slot__5 h
    clear h x2 x3 x4 m_t_slot__5
    intro k13 i13 x2 x3 x4 m_t_slot__5 h
    replace i13 : ∀ (x2 : Int32) (x3 : Int32) (x4 : Int32) (m_t_slot__5 : Nat → Int32), k13 x2 x3 x4 m_t_slot__5 = some r → JJ D X 6 0 0 13 [(0, .ref h_t), (2, .int p2), (3, .int x2), (4, .int x3), (5, .int x4)] [] [(h_t, .inr (8, [.int t_length, .ref h_t_text, .int t_at, .ref h_t_told, .ref h_t_touches, .ref h_t_has, .ref h_t_old, .ref h_t_beside, .int t_stones, .ref h_t_slot, .int t_kept, .int t_done, .int t_rows, .ref h_t_row, .ref h_t_free, .int t_frees, .ref h_t_worth, .ref h_t_fore, .ref h_t_back, .int t_fewest, .ref h_t_got])), (h_t_slot, jI D 240 m_t_slot__5), (h_t_free, jI D 9 t_free_)] := i13
    show JJ D X 6 0 0 13 [(0, .ref h_t), (2, .int p2), (3, .int x2), (4, .int x3), (5, .int x4)] [] [(h_t, .inr (8, [.int t_length, .ref h_t_text, .int t_at, .ref h_t_told, .ref h_t_touches, .ref h_t_has, .ref h_t_old, .ref h_t_beside, .int t_stones, .ref h_t_slot, .int t_kept, .int t_done, .int t_rows, .ref h_t_row, .ref h_t_free, .int t_frees, .ref h_t_worth, .ref h_t_fore, .ref h_t_back, .int t_fewest, .ref h_t_got])), (h_t_slot, jI D 240 m_t_slot__5), (h_t_free, jI D 9 t_free_)]
    unfold bX10_fills_13 at h
    have L50 : ∀ (x12 : Int32) (x13 : Int32) (s14 : Int32) (s15 : Int32) (m_t_slot__16 : Nat → Int32), fX10_fills_50 F t_frees t_free_ p1 p2 k13 x12 x13 s14 s15 m_t_slot__16 = some r → JJ D X 6 0 0 50 [(0, .ref h_t), (2, .int p2), (3, .int x12), (5, .int x13)] [.int s14, .int s15] [(h_t, .inr (8, [.int t_length, .ref h_t_text, .int t_at, .ref h_t_told, .ref h_t_touches, .ref h_t_has, .ref h_t_old, .ref h_t_beside, .int t_stones, .ref h_t_slot, .int t_kept, .int t_done, .int t_rows, .ref h_t_row, .ref h_t_free, .int t_frees, .ref h_t_worth, .ref h_t_fore, .ref h_t_back, .int t_fewest, .ref h_t_got])), (h_t_slot, jI D 240 m_t_slot__16), (h_t_free, jI D 9 t_free_)] := by
      intro x12 x13 s14 s15 m_t_slot__16 h
      unfold fX10_fills_50 at h
      refine j_iadd C dX10_fills_50 ?_
      refine j_istore C dX10_fills_51 (lv' := fun v17 => [(4, .int v17), (0, .ref h_t), (2, .int p2), (3, .int x12), (5, .int x13)]) (by decide) (fun _ => rfl) h (fun v17 h => ?_)
      refine j_iload_n C dX10_fills_53 rfl 3 rfl ?_
      refine j_iconst C dX10_fills_54 (v := (4 : Int32)) (by decide) ?_
      refine j_idiv C dX10_fills_55 (by decide) ?_
      refine j_istore_n C dX10_fills_56 rfl (lv' := fun v18 => [(3, .int v18), (4, .int v17), (0, .ref h_t), (2, .int p2), (5, .int x13)]) (by decide) (fun _ => rfl) h (fun v18 h => ?_)
      refine j_iinc C dX10_fills_57 4 rfl (lv' := fun v19 => [(5, .int v19), (3, .int v18), (4, .int v17), (0, .ref h_t), (2, .int p2)]) (by decide) (fun _ => rfl) h (fun v19 h => ?_)
      refine j_goto C dX10_fills_60 (tgt := 13) (by decide) ?_
      refine j_sub (lv' := [(0, .ref h_t), (2, .int p2), (3, .int v18), (4, .int v17), (5, .int v19)]) [3, 4, 1, 2, 0] rfl ?_
      exact i13 v18 v17 v19 m_t_slot__16 h
    refine j_iload C dX10_fills_13 4 rfl ?_
    refine j_if_lt C (tgt := 63) dX10_fills_15 (by decide) h (fun c6 h => ?_) (fun c6 h => ?_)
    · refine j_aload_n C dX10_fills_63 rfl 0 rfl ?_
      refine j_get C ibX10 (ci := 8) 0 rfl rfl 9 (by decide) bfX10_30 (v := .ref h_t_slot) rfl dX10_fills_64 ?_
      refine j_sipush C dX10_fills_67 (v := (239 : Int32)) (by decide) ?_
      refine j_iload_n C dX10_fills_70 rfl 1 rfl ?_
      refine j_iload C dX10_fills_71 3 rfl ?_
      refine j_iadd C dX10_fills_73 ?_
      refine j_iconst C dX10_fills_74 (v := (2 : Int32)) (by decide) ?_
      refine j_irem C dX10_fills_75 (by decide) ?_
      refine j_iast C 1 rfl (by unfold vp_in; decide) dX10_fills_76 (ws' := fun g7 => [(h_t, .inr (8, [.int t_length, .ref h_t_text, .int t_at, .ref h_t_told, .ref h_t_touches, .ref h_t_has, .ref h_t_old, .ref h_t_beside, .int t_stones, .ref h_t_slot, .int t_kept, .int t_done, .int t_rows, .ref h_t_row, .ref h_t_free, .int t_frees, .ref h_t_worth, .ref h_t_fore, .ref h_t_back, .int t_fewest, .ref h_t_got])), (h_t_slot, jI D 240 g7), (h_t_free, jI D 9 t_free_)]) (fun _ => rfl) h (fun g7 h => ?_)
      exact j_vretR C (r := r) (rtf := fun r => none) (wff := fun r => (oX10_fills D h_t h_t_text h_t_told h_t_touches h_t_has h_t_old h_t_beside h_t_slot h_t_row h_t_free h_t_worth h_t_fore h_t_back h_t_got t_length t_at t_stones t_kept t_done t_rows t_frees t_fewest t_free_ r)) E h rfl rfl dX10_fills_77
    · refine j_aload_n C dX10_fills_18 rfl 0 rfl ?_
      refine j_get C ibX10 (ci := 8) 0 rfl rfl 9 (by decide) bfX10_30 (v := .ref h_t_slot) rfl dX10_fills_19 ?_
      refine j_sipush C dX10_fills_22 (v := (220 : Int32)) (by decide) ?_
      refine j_aload_n C dX10_fills_25 rfl 0 rfl ?_
      refine j_get C ibX10 (ci := 8) 0 rfl rfl 14 (by decide) bfX10_36 (v := .ref h_t_free) rfl dX10_fills_26 ?_
      refine j_iload C dX10_fills_29 4 rfl ?_
      refine jl_inb h (fun b8 h => ?_)
      refine j_iald C 2 rfl b8 dX10_fills_31 ?_
      refine j_iadd C dX10_fills_32 ?_
      refine j_iload_n C dX10_fills_33 rfl 2 rfl ?_
      refine j_iconst C dX10_fills_34 (v := (4 : Int32)) (by decide) ?_
      refine j_irem C dX10_fills_35 (by decide) ?_
      refine jl_inb h (fun b9 h => ?_)
      refine j_iast C 1 rfl b9 dX10_fills_36 (ws' := fun g10 => [(h_t, .inr (8, [.int t_length, .ref h_t_text, .int t_at, .ref h_t_told, .ref h_t_touches, .ref h_t_has, .ref h_t_old, .ref h_t_beside, .int t_stones, .ref h_t_slot, .int t_kept, .int t_done, .int t_rows, .ref h_t_row, .ref h_t_free, .int t_frees, .ref h_t_worth, .ref h_t_fore, .ref h_t_back, .int t_fewest, .ref h_t_got])), (h_t_slot, jI D 240 g10), (h_t_free, jI D 9 t_free_)]) (fun _ => rfl) h (fun g10 h => ?_)
      refine j_iload C dX10_fills_37 3 rfl ?_
      refine j_iload_n C dX10_fills_39 rfl 2 rfl ?_
      refine j_iconst C dX10_fills_40 (v := (4 : Int32)) (by decide) ?_
      refine j_irem C dX10_fills_41 (by decide) ?_
      refine j_if_le C (tgt := 49) dX10_fills_42 (by decide) h (fun c11 h => ?_) (fun c11 h => ?_)
      · refine j_iconst C dX10_fills_49 (v := (0 : Int32)) (by decide) ?_
        refine j_sub (lv' := [(0, .ref h_t), (2, .int p2), (3, .int x2), (5, .int x4)]) [0, 1, 2, 4] rfl ?_
        exact L50 x2 x4 ((0 : Int32)) x3 g10 h
      · refine j_iconst C dX10_fills_45 (v := (1 : Int32)) (by decide) ?_
        refine j_goto C dX10_fills_46 (tgt := 50) (by decide) ?_
        refine j_sub (lv' := [(0, .ref h_t), (2, .int p2), (3, .int x2), (5, .int x4)]) [0, 1, 2, 4] rfl ?_
        exact L50 x2 x4 ((1 : Int32)) x3 g10 h
  refine j_iload_n C dX10_fills_0 rfl 1 rfl ?_
  refine j_istore_nC C dX10_fills_1 rfl (lv' := [(3, .int p1), (0, .ref h_t), (1, .int p1), (2, .int p2)]) (by decide) rfl ?_
  refine j_iconst C dX10_fills_2 (v := (0 : Int32)) (by decide) ?_
  refine j_istoreC C dX10_fills_3 (lv' := [(4, .int ((0 : Int32))), (3, .int p1), (0, .ref h_t), (1, .int p1), (2, .int p2)]) (by decide) rfl ?_
  refine j_aload_n C dX10_fills_5 rfl 2 rfl ?_
  refine j_get C ibX10 (ci := 8) 0 rfl rfl 15 (by decide) bfX10_147 (v := .int t_frees) rfl dX10_fills_6 ?_
  refine j_iconst C dX10_fills_9 (v := (1 : Int32)) (by decide) ?_
  refine j_isub C dX10_fills_10 ?_
  refine j_istore C dX10_fills_11 (lv' := fun v1 => [(5, .int v1), (4, .int ((0 : Int32))), (3, .int p1), (0, .ref h_t), (1, .int p1), (2, .int p2)]) (by decide) (fun _ => rfl) h (fun v1 h => ?_)
  refine j_sub (lv' := [(0, .ref h_t), (2, .int p2), (3, .int p1), (4, .int ((0 : Int32))), (5, .int v1)]) [3, 5, 2, 1, 0] rfl ?_
  exact L13 p1 ((0 : Int32)) v1 t_slot_ h
theorem dX10_step_0 : decode cX10_step 0 = .ok (.iconst 1, 1) := by decide +kernel
theorem dX10_step_1 : decode cX10_step 1 = .ok (.iconst 2, 1) := by decide +kernel
theorem dX10_step_2 : decode cX10_step 2 = .ok (.aload_n 0, 1) := by decide +kernel
theorem dX10_step_3 : decode cX10_step 3 = .ok (.getfield 147, 3) := by decide +kernel
theorem dX10_step_6 : decode cX10_step 6 = .ok (.iconst 1, 1) := by decide +kernel
theorem dX10_step_7 : decode cX10_step 7 = .ok (.isub, 1) := by decide +kernel
theorem dX10_step_8 : decode cX10_step 8 = .ok (.iload_n 1, 1) := by decide +kernel
theorem dX10_step_9 : decode cX10_step 9 = .ok (.isub, 1) := by decide +kernel
theorem dX10_step_10 : decode cX10_step 10 = .ok (.imul, 1) := by decide +kernel
theorem dX10_step_11 : decode cX10_step 11 = .ok (.ishl, 1) := by decide +kernel
theorem dX10_step_12 : decode cX10_step 12 = .ok (.ireturn, 1) := by decide +kernel
def fX10_step (t_frees : Int32) (p1 : Int32) : Option (Int32) :=
(some (((1 : Int32)) <<< ((((2 : Int32)) * ((t_frees - ((1 : Int32))) - p1)) &&& 31)))
def oX10_step (D : jv_D) (h_t : Nat) (h_t_text : Nat) (h_t_told : Nat) (h_t_touches : Nat) (h_t_has : Nat) (h_t_old : Nat) (h_t_beside : Nat) (h_t_slot : Nat) (h_t_row : Nat) (h_t_free : Nat) (h_t_worth : Nat) (h_t_fore : Nat) (h_t_back : Nat) (h_t_got : Nat) (t_length : Int32) (t_at : Int32) (t_stones : Int32) (t_kept : Int32) (t_done : Int32) (t_rows : Int32) (t_frees : Int32) (t_fewest : Int32) (r : Int32) : va_W := [(h_t, .inr (8, [.int t_length, .ref h_t_text, .int t_at, .ref h_t_told, .ref h_t_touches, .ref h_t_has, .ref h_t_old, .ref h_t_beside, .int t_stones, .ref h_t_slot, .int t_kept, .int t_done, .int t_rows, .ref h_t_row, .ref h_t_free, .int t_frees, .ref h_t_worth, .ref h_t_fore, .ref h_t_back, .int t_fewest, .ref h_t_got]))]
set_option maxHeartbeats 40000000 in
set_option maxRecDepth 100000 in
theorem mX10_step (l : Launch) (D : jv_D) (h_t : Nat) (h_t_text : Nat) (h_t_told : Nat) (h_t_touches : Nat) (h_t_has : Nat) (h_t_old : Nat) (h_t_beside : Nat) (h_t_slot : Nat) (h_t_row : Nat) (h_t_free : Nat) (h_t_worth : Nat) (h_t_fore : Nat) (h_t_back : Nat) (h_t_got : Nat) (t_length : Int32) (t_at : Int32) (t_stones : Int32) (t_kept : Int32) (t_done : Int32) (t_rows : Int32) (t_frees : Int32) (t_fewest : Int32) (p1 : Int32) (r : Int32) (h : fX10_step t_frees p1 = some r) : MM l yX10_step (jW yX10_step cX10_step 2 (some .int)) ({ frames := 0, cells := 0, slots := 0, locals := 0 }) D [.ref h_t, .int p1] [(h_t, .inr (8, [.int t_length, .ref h_t_text, .int t_at, .ref h_t_told, .ref h_t_touches, .ref h_t_has, .ref h_t_old, .ref h_t_beside, .int t_stones, .ref h_t_slot, .int t_kept, .int t_done, .int t_rows, .ref h_t_row, .ref h_t_free, .int t_frees, .ref h_t_worth, .ref h_t_fore, .ref h_t_back, .int t_fewest, .ref h_t_got]))] (some (.int r)) (oX10_step D h_t h_t_text h_t_told h_t_touches h_t_has h_t_old h_t_beside h_t_slot h_t_row h_t_free h_t_worth h_t_fore h_t_back h_t_got t_length t_at t_stones t_kept t_done t_rows t_frees t_fewest r) := by
  refine mn_of hpX10_step (Nat.le_of_ble_eq_true rfl) ?_
  intro X hXl C E0 hN
  subst hXl
  replace C : JC D X 2 RX10 cX10_step ({ frames := 0, cells := 0, slots := 0, locals := 0 }) := C
  have E : JE D X 0 0 (some .int) (fun _ : Unit => (some (.int r))) (fun _ : Unit => (oX10_step D h_t h_t_text h_t_told h_t_touches h_t_has h_t_old h_t_beside h_t_slot h_t_row h_t_free h_t_worth h_t_fore h_t_back h_t_got t_length t_at t_stones t_kept t_done t_rows t_frees t_fewest r)) := E0 0 0 rfl rfl
  clear E0 hN
  show JJ D X 2 0 0 0 [(0, .ref h_t), (1, .int p1)] [] [(h_t, .inr (8, [.int t_length, .ref h_t_text, .int t_at, .ref h_t_told, .ref h_t_touches, .ref h_t_has, .ref h_t_old, .ref h_t_beside, .int t_stones, .ref h_t_slot, .int t_kept, .int t_done, .int t_rows, .ref h_t_row, .ref h_t_free, .int t_frees, .ref h_t_worth, .ref h_t_fore, .ref h_t_back, .int t_fewest, .ref h_t_got]))]
  unfold fX10_step at h
  refine j_iconst C dX10_step_0 (v := (1 : Int32)) (by decide) ?_
  refine j_iconst C dX10_step_1 (v := (2 : Int32)) (by decide) ?_
  refine j_aload_n C dX10_step_2 rfl 0 rfl ?_
  refine j_get C ibX10 (ci := 8) 0 rfl rfl 15 (by decide) bfX10_147 (v := .int t_frees) rfl dX10_step_3 ?_
  refine j_iconst C dX10_step_6 (v := (1 : Int32)) (by decide) ?_
  refine j_isub C dX10_step_7 ?_
  refine j_iload_n C dX10_step_8 rfl 1 rfl ?_
  refine j_isub C dX10_step_9 ?_
  refine j_imul C dX10_step_10 ?_
  refine j_ishl C dX10_step_11 ?_
  exact j_iretR C (r := r) (rtf := fun r => (some (.int r))) (wff := fun r => (oX10_step D h_t h_t_text h_t_told h_t_touches h_t_has h_t_old h_t_beside h_t_slot h_t_row h_t_free h_t_worth h_t_fore h_t_back h_t_got t_length t_at t_stones t_kept t_done t_rows t_frees t_fewest r)) E h rfl rfl dX10_step_12
