theorem dX10_begins_0 : decode cX10_begins 0 = .ok (.aload_n 0, 1) := by decide +kernel
theorem dX10_begins_1 : decode cX10_begins 1 = .ok (.getfield 13, 3) := by decide +kernel
theorem dX10_begins_4 : decode cX10_begins 4 = .ok (.iconst 4, 1) := by decide +kernel
theorem dX10_begins_5 : decode cX10_begins 5 = .ok (.iconst 1, 1) := by decide +kernel
theorem dX10_begins_6 : decode cX10_begins 6 = .ok (.iastore, 1) := by decide +kernel
theorem dX10_begins_7 : decode cX10_begins 7 = .ok (.aload_n 0, 1) := by decide +kernel
theorem dX10_begins_8 : decode cX10_begins 8 = .ok (.getfield 13, 3) := by decide +kernel
theorem dX10_begins_11 : decode cX10_begins 11 = .ok (.iconst 5, 1) := by decide +kernel
theorem dX10_begins_12 : decode cX10_begins 12 = .ok (.iconst 4, 1) := by decide +kernel
theorem dX10_begins_13 : decode cX10_begins 13 = .ok (.iastore, 1) := by decide +kernel
theorem dX10_begins_14 : decode cX10_begins 14 = .ok (.aload_n 0, 1) := by decide +kernel
theorem dX10_begins_15 : decode cX10_begins 15 = .ok (.getfield 13, 3) := by decide +kernel
theorem dX10_begins_18 : decode cX10_begins 18 = .ok (.bipush 6, 2) := by decide +kernel
theorem dX10_begins_20 : decode cX10_begins 20 = .ok (.iconst 2, 1) := by decide +kernel
theorem dX10_begins_21 : decode cX10_begins 21 = .ok (.iastore, 1) := by decide +kernel
theorem dX10_begins_22 : decode cX10_begins 22 = .ok (.aload_n 0, 1) := by decide +kernel
theorem dX10_begins_23 : decode cX10_begins 23 = .ok (.getfield 13, 3) := by decide +kernel
theorem dX10_begins_26 : decode cX10_begins 26 = .ok (.bipush 7, 2) := by decide +kernel
theorem dX10_begins_28 : decode cX10_begins 28 = .ok (.iconst 0, 1) := by decide +kernel
theorem dX10_begins_29 : decode cX10_begins 29 = .ok (.iastore, 1) := by decide +kernel
theorem dX10_begins_30 : decode cX10_begins 30 = .ok (.aload_n 0, 1) := by decide +kernel
theorem dX10_begins_31 : decode cX10_begins 31 = .ok (.getfield 21, 3) := by decide +kernel
theorem dX10_begins_34 : decode cX10_begins 34 = .ok (.iconst 2, 1) := by decide +kernel
theorem dX10_begins_35 : decode cX10_begins 35 = .ok (.iconst 3, 1) := by decide +kernel
theorem dX10_begins_36 : decode cX10_begins 36 = .ok (.iastore, 1) := by decide +kernel
theorem dX10_begins_37 : decode cX10_begins 37 = .ok (.aload_n 0, 1) := by decide +kernel
theorem dX10_begins_38 : decode cX10_begins 38 = .ok (.getfield 21, 3) := by decide +kernel
theorem dX10_begins_41 : decode cX10_begins 41 = .ok (.iconst 3, 1) := by decide +kernel
theorem dX10_begins_42 : decode cX10_begins 42 = .ok (.iconst 3, 1) := by decide +kernel
theorem dX10_begins_43 : decode cX10_begins 43 = .ok (.iastore, 1) := by decide +kernel
theorem dX10_begins_44 : decode cX10_begins 44 = .ok (.iconst 0, 1) := by decide +kernel
theorem dX10_begins_45 : decode cX10_begins 45 = .ok (.istore_n 1, 1) := by decide +kernel
theorem dX10_begins_46 : decode cX10_begins 46 = .ok (.iload_n 1, 1) := by decide +kernel
theorem dX10_begins_47 : decode cX10_begins 47 = .ok (.bipush 16, 2) := by decide +kernel
theorem dX10_begins_49 : decode cX10_begins 49 = .ok (.if_icmp .ge 48, 3) := by decide +kernel
theorem dX10_begins_52 : decode cX10_begins 52 = .ok (.aload_n 0, 1) := by decide +kernel
theorem dX10_begins_53 : decode cX10_begins 53 = .ok (.getfield 17, 3) := by decide +kernel
theorem dX10_begins_56 : decode cX10_begins 56 = .ok (.bipush 16, 2) := by decide +kernel
theorem dX10_begins_58 : decode cX10_begins 58 = .ok (.iload_n 1, 1) := by decide +kernel
theorem dX10_begins_59 : decode cX10_begins 59 = .ok (.iadd, 1) := by decide +kernel
theorem dX10_begins_60 : decode cX10_begins 60 = .ok (.iload_n 1, 1) := by decide +kernel
theorem dX10_begins_61 : decode cX10_begins 61 = .ok (.iconst 4, 1) := by decide +kernel
theorem dX10_begins_62 : decode cX10_begins 62 = .ok (.idiv, 1) := by decide +kernel
theorem dX10_begins_63 : decode cX10_begins 63 = .ok (.iload_n 1, 1) := by decide +kernel
theorem dX10_begins_64 : decode cX10_begins 64 = .ok (.iconst 4, 1) := by decide +kernel
theorem dX10_begins_65 : decode cX10_begins 65 = .ok (.irem, 1) := by decide +kernel
theorem dX10_begins_66 : decode cX10_begins 66 = .ok (.if_icmp .eq 7, 3) := by decide +kernel
theorem dX10_begins_69 : decode cX10_begins 69 = .ok (.iconst 1, 1) := by decide +kernel
theorem dX10_begins_70 : decode cX10_begins 70 = .ok (.goto 4, 3) := by decide +kernel
theorem dX10_begins_73 : decode cX10_begins 73 = .ok (.iconst 0, 1) := by decide +kernel
theorem dX10_begins_74 : decode cX10_begins 74 = .ok (.bastore, 1) := by decide +kernel
theorem dX10_begins_75 : decode cX10_begins 75 = .ok (.iload_n 1, 1) := by decide +kernel
theorem dX10_begins_76 : decode cX10_begins 76 = .ok (.bipush 9, 2) := by decide +kernel
theorem dX10_begins_78 : decode cX10_begins 78 = .ok (.if_icmp .ge 13, 3) := by decide +kernel
theorem dX10_begins_81 : decode cX10_begins 81 = .ok (.aload_n 0, 1) := by decide +kernel
theorem dX10_begins_82 : decode cX10_begins 82 = .ok (.getfield 24, 3) := by decide +kernel
theorem dX10_begins_85 : decode cX10_begins 85 = .ok (.bipush 9, 2) := by decide +kernel
theorem dX10_begins_87 : decode cX10_begins 87 = .ok (.iload_n 1, 1) := by decide +kernel
theorem dX10_begins_88 : decode cX10_begins 88 = .ok (.iadd, 1) := by decide +kernel
theorem dX10_begins_89 : decode cX10_begins 89 = .ok (.iconst 0, 1) := by decide +kernel
theorem dX10_begins_90 : decode cX10_begins 90 = .ok (.iastore, 1) := by decide +kernel
theorem dX10_begins_91 : decode cX10_begins 91 = .ok (.iinc 1 1, 3) := by decide +kernel
theorem dX10_begins_94 : decode cX10_begins 94 = .ok (.goto (-48), 3) := by decide +kernel
theorem dX10_begins_97 : decode cX10_begins 97 = .ok (.return_, 1) := by decide +kernel
def fX10_begins_74 (F : Nat) (k46 : Int32 → (Nat → Int32) → (Nat → Int32) → (Nat → Int32) → (Nat → Int32) → Option ((Nat → Int32) × (Nat → Int32) × (Nat → Int32) × (Nat → Int32))) (x14 : Int32) (s15 : Int32) (s16 : Int32) (m_t_told__17 : Nat → Int32) (m_t_touches__18 : Nat → Int32) (m_t_has__19 : Nat → Int32) (m_t_old__20 : Nat → Int32) : Option ((Nat → Int32) × (Nat → Int32) × (Nat → Int32) × (Nat → Int32)) :=
(if s16 < 0 ∨ 32 ≤ s16.toNatClampNeg then none else
(jl_let (upd m_t_touches__18 s16.toNatClampNeg (vp_nar .boolean s15)) fun g22 =>
(if ((9 : Int32)) ≤ x14 then
(jl_let (x14 + Int32.ofInt (1)) fun v24 =>
(k46 v24 m_t_told__17 g22 m_t_has__19 m_t_old__20))
else
(if (((9 : Int32)) + x14) < 0 ∨ 18 ≤ (((9 : Int32)) + x14).toNatClampNeg then none else
(jl_let (upd m_t_old__20 (((9 : Int32)) + x14).toNatClampNeg ((0 : Int32))) fun g26 =>
(jl_let (x14 + Int32.ofInt (1)) fun v27 =>
(k46 v27 m_t_told__17 g22 m_t_has__19 g26)))))))
def bX10_begins_46 (F : Nat)  (k46 : Int32 → (Nat → Int32) → (Nat → Int32) → (Nat → Int32) → (Nat → Int32) → Option ((Nat → Int32) × (Nat → Int32) × (Nat → Int32) × (Nat → Int32))) (x7 : Int32) (m_t_told__8 : Nat → Int32) (m_t_touches__9 : Nat → Int32) (m_t_has__10 : Nat → Int32) (m_t_old__11 : Nat → Int32) : Option ((Nat → Int32) × (Nat → Int32) × (Nat → Int32) × (Nat → Int32)) :=
(if ((16 : Int32)) ≤ x7 then
(some (m_t_told__8, m_t_touches__9, m_t_has__10, m_t_old__11))
else
(if (x7 / ((4 : Int32))) = (x7 - x7 / ((4 : Int32)) * ((4 : Int32))) then
(fX10_begins_74 F k46 x7 ((0 : Int32)) (((16 : Int32)) + x7) m_t_told__8 m_t_touches__9 m_t_has__10 m_t_old__11)
else
(fX10_begins_74 F k46 x7 ((1 : Int32)) (((16 : Int32)) + x7) m_t_told__8 m_t_touches__9 m_t_has__10 m_t_old__11)))
def lX10_begins_46 (F : Nat)  (F2 : Nat) (x7 : Int32) (m_t_told__8 : Nat → Int32) (m_t_touches__9 : Nat → Int32) (m_t_has__10 : Nat → Int32) (m_t_old__11 : Nat → Int32) : Option ((Nat → Int32) × (Nat → Int32) × (Nat → Int32) × (Nat → Int32)) := jl_loop5 (bX10_begins_46 F ) F2 x7 m_t_told__8 m_t_touches__9 m_t_has__10 m_t_old__11
def fX10_begins (F : Nat) (t_told_ : Nat → Int32) (t_touches_ : Nat → Int32) (t_has_ : Nat → Int32) (t_old_ : Nat → Int32) : Option ((Nat → Int32) × (Nat → Int32) × (Nat → Int32) × (Nat → Int32)) :=
(jl_let (upd t_told_ ((4 : Int32)).toNatClampNeg ((1 : Int32))) fun g1 =>
(jl_let (upd g1 ((5 : Int32)).toNatClampNeg ((4 : Int32))) fun g2 =>
(jl_let (upd g2 ((6 : Int32)).toNatClampNeg ((2 : Int32))) fun g3 =>
(jl_let (upd g3 ((7 : Int32)).toNatClampNeg ((0 : Int32))) fun g4 =>
(jl_let (upd t_has_ ((2 : Int32)).toNatClampNeg ((3 : Int32))) fun g5 =>
(jl_let (upd g5 ((3 : Int32)).toNatClampNeg ((3 : Int32))) fun g6 =>
(lX10_begins_46 F F ((0 : Int32)) g4 t_touches_ g6 t_old_)))))))
def oX10_begins (D : jv_D) (h_t : Nat) (h_t_text : Nat) (h_t_told : Nat) (h_t_touches : Nat) (h_t_has : Nat) (h_t_old : Nat) (h_t_beside : Nat) (h_t_slot : Nat) (h_t_row : Nat) (h_t_free : Nat) (h_t_worth : Nat) (h_t_fore : Nat) (h_t_back : Nat) (h_t_got : Nat) (t_length : Int32) (t_at : Int32) (t_stones : Int32) (t_kept : Int32) (t_done : Int32) (t_rows : Int32) (t_frees : Int32) (t_fewest : Int32) (r : (Nat → Int32) × (Nat → Int32) × (Nat → Int32) × (Nat → Int32)) : va_W := [(h_t, .inr (8, [.int t_length, .ref h_t_text, .int t_at, .ref h_t_told, .ref h_t_touches, .ref h_t_has, .ref h_t_old, .ref h_t_beside, .int t_stones, .ref h_t_slot, .int t_kept, .int t_done, .int t_rows, .ref h_t_row, .ref h_t_free, .int t_frees, .ref h_t_worth, .ref h_t_fore, .ref h_t_back, .int t_fewest, .ref h_t_got])), (h_t_told, jI D 8 r.1), (h_t_touches, jZ D 32 r.2.1), (h_t_has, jI D 4 r.2.2.1), (h_t_old, jI D 18 r.2.2.2)]
set_option maxHeartbeats 40000000 in
set_option maxRecDepth 100000 in
theorem mX10_begins (l : Launch) (D : jv_D) (F : Nat) (h_t : Nat) (h_t_text : Nat) (h_t_told : Nat) (h_t_touches : Nat) (h_t_has : Nat) (h_t_old : Nat) (h_t_beside : Nat) (h_t_slot : Nat) (h_t_row : Nat) (h_t_free : Nat) (h_t_worth : Nat) (h_t_fore : Nat) (h_t_back : Nat) (h_t_got : Nat) (t_length : Int32) (t_at : Int32) (t_stones : Int32) (t_kept : Int32) (t_done : Int32) (t_rows : Int32) (t_frees : Int32) (t_fewest : Int32) (t_told_ : Nat → Int32) (t_touches_ : Nat → Int32) (t_has_ : Nat → Int32) (t_old_ : Nat → Int32) (r : (Nat → Int32) × (Nat → Int32) × (Nat → Int32) × (Nat → Int32)) (h : fX10_begins F t_told_ t_touches_ t_has_ t_old_ = some r) : MM l yX10_begins (jW yX10_begins cX10_begins 2 none) ({ frames := 0, cells := 0, slots := 0, locals := 0 }) D [.ref h_t] [(h_t, .inr (8, [.int t_length, .ref h_t_text, .int t_at, .ref h_t_told, .ref h_t_touches, .ref h_t_has, .ref h_t_old, .ref h_t_beside, .int t_stones, .ref h_t_slot, .int t_kept, .int t_done, .int t_rows, .ref h_t_row, .ref h_t_free, .int t_frees, .ref h_t_worth, .ref h_t_fore, .ref h_t_back, .int t_fewest, .ref h_t_got])), (h_t_told, jI D 8 t_told_), (h_t_touches, jZ D 32 t_touches_), (h_t_has, jI D 4 t_has_), (h_t_old, jI D 18 t_old_)] none (oX10_begins D h_t h_t_text h_t_told h_t_touches h_t_has h_t_old h_t_beside h_t_slot h_t_row h_t_free h_t_worth h_t_fore h_t_back h_t_got t_length t_at t_stones t_kept t_done t_rows t_frees t_fewest r) := by
  refine mn_of hpX10_begins (Nat.le_of_ble_eq_true rfl) ?_
  intro X hXl C E0 hN
  subst hXl
  replace C : JC D X 2 RX10 cX10_begins ({ frames := 0, cells := 0, slots := 0, locals := 0 }) := C
  have E : JE D X 0 0 none (fun _ : Unit => none) (fun _ : Unit => (oX10_begins D h_t h_t_text h_t_told h_t_touches h_t_has h_t_old h_t_beside h_t_slot h_t_row h_t_free h_t_worth h_t_fore h_t_back h_t_got t_length t_at t_stones t_kept t_done t_rows t_frees t_fewest r)) := E0 0 0 rfl rfl
  clear E0 hN
  show JJ D X 2 0 0 0 [(0, .ref h_t)] [] [(h_t, .inr (8, [.int t_length, .ref h_t_text, .int t_at, .ref h_t_told, .ref h_t_touches, .ref h_t_has, .ref h_t_old, .ref h_t_beside, .int t_stones, .ref h_t_slot, .int t_kept, .int t_done, .int t_rows, .ref h_t_row, .ref h_t_free, .int t_frees, .ref h_t_worth, .ref h_t_fore, .ref h_t_back, .int t_fewest, .ref h_t_got])), (h_t_told, jI D 8 t_told_), (h_t_touches, jZ D 32 t_touches_), (h_t_has, jI D 4 t_has_), (h_t_old, jI D 18 t_old_)]
  unfold fX10_begins at h
  have L46 : ∀ (x7 : Int32) (m_t_told__8 : Nat → Int32) (m_t_touches__9 : Nat → Int32) (m_t_has__10 : Nat → Int32) (m_t_old__11 : Nat → Int32), lX10_begins_46 F  F x7 m_t_told__8 m_t_touches__9 m_t_has__10 m_t_old__11 = some r → JJ D X 2 0 0 46 [(0, .ref h_t), (1, .int x7)] [] [(h_t, .inr (8, [.int t_length, .ref h_t_text, .int t_at, .ref h_t_told, .ref h_t_touches, .ref h_t_has, .ref h_t_old, .ref h_t_beside, .int t_stones, .ref h_t_slot, .int t_kept, .int t_done, .int t_rows, .ref h_t_row, .ref h_t_free, .int t_frees, .ref h_t_worth, .ref h_t_fore, .ref h_t_back, .int t_fewest, .ref h_t_got])), (h_t_told, jI D 8 m_t_told__8), (h_t_touches, jZ D 32 m_t_touches__9), (h_t_has, jI D 4 m_t_has__10), (h_t_old, jI D 18 m_t_old__11)] := by
    intro x7 m_t_told__8 m_t_touches__9 m_t_has__10 m_t_old__11 h
    refine jl_ind5 (fun x7 m_t_told__8 m_t_touches__9 m_t_has__10 m_t_old__11 => JJ D X 2 0 0 46 [(0, .ref h_t), (1, .int x7)] [] [(h_t, .inr (8, [.int t_length, .ref h_t_text, .int t_at, .ref h_t_told, .ref h_t_touches, .ref h_t_has, .ref h_t_old, .ref h_t_beside, .int t_stones, .ref h_t_slot, .int t_kept, .int t_done, .int t_rows, .ref h_t_row, .ref h_t_free, .int t_frees, .ref h_t_worth, .ref h_t_fore, .ref h_t_back, .int t_fewest, .ref h_t_got])), (h_t_told, jI D 8 m_t_told__8), (h_t_touches, jZ D 32 m_t_touches__9), (h_t_has, jI D 4 m_t_has__10), (h_t_old, jI D 18 m_t_old__11)]) ?_ F x7 m_t_told__8 m_t_touches__9 m_t_has__10 m_t_old__11 h
    clear h x7 m_t_told__8 m_t_touches__9 m_t_has__10 m_t_old__11
    intro k46 i46 x7 m_t_told__8 m_t_touches__9 m_t_has__10 m_t_old__11 h
    replace i46 : ∀ (x7 : Int32) (m_t_told__8 : Nat → Int32) (m_t_touches__9 : Nat → Int32) (m_t_has__10 : Nat → Int32) (m_t_old__11 : Nat → Int32), k46 x7 m_t_told__8 m_t_touches__9 m_t_has__10 m_t_old__11 = some r → JJ D X 2 0 0 46 [(0, .ref h_t), (1, .int x7)] [] [(h_t, .inr (8, [.int t_length, .ref h_t_text, .int t_at, .ref h_t_told, .ref h_t_touches, .ref h_t_has, .ref h_t_old, .ref h_t_beside, .int t_stones, .ref h_t_slot, .int t_kept, .int t_done, .int t_rows, .ref h_t_row, .ref h_t_free, .int t_frees, .ref h_t_worth, .ref h_t_fore, .ref h_t_back, .int t_fewest, .ref h_t_got])), (h_t_told, jI D 8 m_t_told__8), (h_t_touches, jZ D 32 m_t_touches__9), (h_t_has, jI D 4 m_t_has__10), (h_t_old, jI D 18 m_t_old__11)] := i46
    show JJ D X 2 0 0 46 [(0, .ref h_t), (1, .int x7)] [] [(h_t, .inr (8, [.int t_length, .ref h_t_text, .int t_at, .ref h_t_told, .ref h_t_touches, .ref h_t_has, .ref h_t_old, .ref h_t_beside, .int t_stones, .ref h_t_slot, .int t_kept, .int t_done, .int t_rows, .ref h_t_row, .ref h_t_free, .int t_frees, .ref h_t_worth, .ref h_t_fore, .ref h_t_back, .int t_fewest, .ref h_t_got])), (h_t_told, jI D 8 m_t_told__8), (h_t_touches, jZ D 32 m_t_touches__9), (h_t_has, jI D 4 m_t_has__10), (h_t_old, jI D 18 m_t_old__11)]
    unfold bX10_begins_46 at h
    have L74 : ∀ (x14 : Int32) (s15 : Int32) (s16 : Int32) (m_t_told__17 : Nat → Int32) (m_t_touches__18 : Nat → Int32) (m_t_has__19 : Nat → Int32) (m_t_old__20 : Nat → Int32), fX10_begins_74 F k46 x14 s15 s16 m_t_told__17 m_t_touches__18 m_t_has__19 m_t_old__20 = some r → JJ D X 2 0 0 74 [(0, .ref h_t), (1, .int x14)] [.int s15, .int s16, .ref h_t_touches] [(h_t, .inr (8, [.int t_length, .ref h_t_text, .int t_at, .ref h_t_told, .ref h_t_touches, .ref h_t_has, .ref h_t_old, .ref h_t_beside, .int t_stones, .ref h_t_slot, .int t_kept, .int t_done, .int t_rows, .ref h_t_row, .ref h_t_free, .int t_frees, .ref h_t_worth, .ref h_t_fore, .ref h_t_back, .int t_fewest, .ref h_t_got])), (h_t_told, jI D 8 m_t_told__17), (h_t_touches, jZ D 32 m_t_touches__18), (h_t_has, jI D 4 m_t_has__19), (h_t_old, jI D 18 m_t_old__20)] := by
      intro x14 s15 s16 m_t_told__17 m_t_touches__18 m_t_has__19 m_t_old__20 h
      unfold fX10_begins_74 at h
      refine jl_inb h (fun b21 h => ?_)
      refine j_zast C 2 rfl b21 dX10_begins_74 (ws' := fun g22 => [(h_t, .inr (8, [.int t_length, .ref h_t_text, .int t_at, .ref h_t_told, .ref h_t_touches, .ref h_t_has, .ref h_t_old, .ref h_t_beside, .int t_stones, .ref h_t_slot, .int t_kept, .int t_done, .int t_rows, .ref h_t_row, .ref h_t_free, .int t_frees, .ref h_t_worth, .ref h_t_fore, .ref h_t_back, .int t_fewest, .ref h_t_got])), (h_t_told, jI D 8 m_t_told__17), (h_t_touches, jZ D 32 g22), (h_t_has, jI D 4 m_t_has__19), (h_t_old, jI D 18 m_t_old__20)]) (fun _ => rfl) h (fun g22 h => ?_)
      refine j_iload_n C dX10_begins_75 rfl 1 rfl ?_
      refine j_bipush C dX10_begins_76 (v := (9 : Int32)) (by decide) ?_
      refine j_icmp_ge C (tgt := 91) dX10_begins_78 (by decide) h (fun c23 h => ?_) (fun c23 h => ?_)
      · refine j_iinc C dX10_begins_91 1 rfl (lv' := fun v24 => [(1, .int v24), (0, .ref h_t)]) (by decide) (fun _ => rfl) h (fun v24 h => ?_)
        refine j_goto C dX10_begins_94 (tgt := 46) (by decide) ?_
        refine j_sub (lv' := [(0, .ref h_t), (1, .int v24)]) [1, 0] rfl ?_
        exact i46 v24 m_t_told__17 g22 m_t_has__19 m_t_old__20 h
      · refine j_aload_n C dX10_begins_81 rfl 0 rfl ?_
        refine j_get C ibX10 (ci := 8) 0 rfl rfl 6 (by decide) bfX10_24 (v := .ref h_t_old) rfl dX10_begins_82 ?_
        refine j_bipush C dX10_begins_85 (v := (9 : Int32)) (by decide) ?_
        refine j_iload_n C dX10_begins_87 rfl 1 rfl ?_
        refine j_iadd C dX10_begins_88 ?_
        refine j_iconst C dX10_begins_89 (v := (0 : Int32)) (by decide) ?_
        refine jl_inb h (fun b25 h => ?_)
        refine j_iast C 4 rfl b25 dX10_begins_90 (ws' := fun g26 => [(h_t, .inr (8, [.int t_length, .ref h_t_text, .int t_at, .ref h_t_told, .ref h_t_touches, .ref h_t_has, .ref h_t_old, .ref h_t_beside, .int t_stones, .ref h_t_slot, .int t_kept, .int t_done, .int t_rows, .ref h_t_row, .ref h_t_free, .int t_frees, .ref h_t_worth, .ref h_t_fore, .ref h_t_back, .int t_fewest, .ref h_t_got])), (h_t_told, jI D 8 m_t_told__17), (h_t_touches, jZ D 32 g22), (h_t_has, jI D 4 m_t_has__19), (h_t_old, jI D 18 g26)]) (fun _ => rfl) h (fun g26 h => ?_)
        refine j_iinc C dX10_begins_91 1 rfl (lv' := fun v27 => [(1, .int v27), (0, .ref h_t)]) (by decide) (fun _ => rfl) h (fun v27 h => ?_)
        refine j_goto C dX10_begins_94 (tgt := 46) (by decide) ?_
        refine j_sub (lv' := [(0, .ref h_t), (1, .int v27)]) [1, 0] rfl ?_
        exact i46 v27 m_t_told__17 g22 m_t_has__19 g26 h
    refine j_iload_n C dX10_begins_46 rfl 1 rfl ?_
    refine j_bipush C dX10_begins_47 (v := (16 : Int32)) (by decide) ?_
    refine j_icmp_ge C (tgt := 97) dX10_begins_49 (by decide) h (fun c12 h => ?_) (fun c12 h => ?_)
    · exact j_vretR C (r := r) (rtf := fun r => none) (wff := fun r => (oX10_begins D h_t h_t_text h_t_told h_t_touches h_t_has h_t_old h_t_beside h_t_slot h_t_row h_t_free h_t_worth h_t_fore h_t_back h_t_got t_length t_at t_stones t_kept t_done t_rows t_frees t_fewest r)) E h rfl rfl dX10_begins_97
    · refine j_aload_n C dX10_begins_52 rfl 0 rfl ?_
      refine j_get C ibX10 (ci := 8) 0 rfl rfl 4 (by decide) bfX10_17 (v := .ref h_t_touches) rfl dX10_begins_53 ?_
      refine j_bipush C dX10_begins_56 (v := (16 : Int32)) (by decide) ?_
      refine j_iload_n C dX10_begins_58 rfl 1 rfl ?_
      refine j_iadd C dX10_begins_59 ?_
      refine j_iload_n C dX10_begins_60 rfl 1 rfl ?_
      refine j_iconst C dX10_begins_61 (v := (4 : Int32)) (by decide) ?_
      refine j_idiv C dX10_begins_62 (by decide) ?_
      refine j_iload_n C dX10_begins_63 rfl 1 rfl ?_
      refine j_iconst C dX10_begins_64 (v := (4 : Int32)) (by decide) ?_
      refine j_irem C dX10_begins_65 (by decide) ?_
      refine j_icmp_eq C (tgt := 73) dX10_begins_66 (by decide) h (fun c13 h => ?_) (fun c13 h => ?_)
      · refine j_iconst C dX10_begins_73 (v := (0 : Int32)) (by decide) ?_
        refine j_sub (lv' := [(0, .ref h_t), (1, .int x7)]) [0, 1] rfl ?_
        exact L74 x7 ((0 : Int32)) (((16 : Int32)) + x7) m_t_told__8 m_t_touches__9 m_t_has__10 m_t_old__11 h
      · refine j_iconst C dX10_begins_69 (v := (1 : Int32)) (by decide) ?_
        refine j_goto C dX10_begins_70 (tgt := 74) (by decide) ?_
        refine j_sub (lv' := [(0, .ref h_t), (1, .int x7)]) [0, 1] rfl ?_
        exact L74 x7 ((1 : Int32)) (((16 : Int32)) + x7) m_t_told__8 m_t_touches__9 m_t_has__10 m_t_old__11 h
  refine j_aload_n C dX10_begins_0 rfl 0 rfl ?_
  refine j_get C ibX10 (ci := 8) 0 rfl rfl 3 (by decide) bfX10_13 (v := .ref h_t_told) rfl dX10_begins_1 ?_
  refine j_iconst C dX10_begins_4 (v := (4 : Int32)) (by decide) ?_
  refine j_iconst C dX10_begins_5 (v := (1 : Int32)) (by decide) ?_
  refine j_iast C 1 rfl (by unfold vp_in; decide) dX10_begins_6 (ws' := fun g1 => [(h_t, .inr (8, [.int t_length, .ref h_t_text, .int t_at, .ref h_t_told, .ref h_t_touches, .ref h_t_has, .ref h_t_old, .ref h_t_beside, .int t_stones, .ref h_t_slot, .int t_kept, .int t_done, .int t_rows, .ref h_t_row, .ref h_t_free, .int t_frees, .ref h_t_worth, .ref h_t_fore, .ref h_t_back, .int t_fewest, .ref h_t_got])), (h_t_told, jI D 8 g1), (h_t_touches, jZ D 32 t_touches_), (h_t_has, jI D 4 t_has_), (h_t_old, jI D 18 t_old_)]) (fun _ => rfl) h (fun g1 h => ?_)
  refine j_aload_n C dX10_begins_7 rfl 0 rfl ?_
  refine j_get C ibX10 (ci := 8) 0 rfl rfl 3 (by decide) bfX10_13 (v := .ref h_t_told) rfl dX10_begins_8 ?_
  refine j_iconst C dX10_begins_11 (v := (5 : Int32)) (by decide) ?_
  refine j_iconst C dX10_begins_12 (v := (4 : Int32)) (by decide) ?_
  refine j_iast C 1 rfl (by unfold vp_in; decide) dX10_begins_13 (ws' := fun g2 => [(h_t, .inr (8, [.int t_length, .ref h_t_text, .int t_at, .ref h_t_told, .ref h_t_touches, .ref h_t_has, .ref h_t_old, .ref h_t_beside, .int t_stones, .ref h_t_slot, .int t_kept, .int t_done, .int t_rows, .ref h_t_row, .ref h_t_free, .int t_frees, .ref h_t_worth, .ref h_t_fore, .ref h_t_back, .int t_fewest, .ref h_t_got])), (h_t_told, jI D 8 g2), (h_t_touches, jZ D 32 t_touches_), (h_t_has, jI D 4 t_has_), (h_t_old, jI D 18 t_old_)]) (fun _ => rfl) h (fun g2 h => ?_)
  refine j_aload_n C dX10_begins_14 rfl 0 rfl ?_
  refine j_get C ibX10 (ci := 8) 0 rfl rfl 3 (by decide) bfX10_13 (v := .ref h_t_told) rfl dX10_begins_15 ?_
  refine j_bipush C dX10_begins_18 (v := (6 : Int32)) (by decide) ?_
  refine j_iconst C dX10_begins_20 (v := (2 : Int32)) (by decide) ?_
  refine j_iast C 1 rfl (by unfold vp_in; decide) dX10_begins_21 (ws' := fun g3 => [(h_t, .inr (8, [.int t_length, .ref h_t_text, .int t_at, .ref h_t_told, .ref h_t_touches, .ref h_t_has, .ref h_t_old, .ref h_t_beside, .int t_stones, .ref h_t_slot, .int t_kept, .int t_done, .int t_rows, .ref h_t_row, .ref h_t_free, .int t_frees, .ref h_t_worth, .ref h_t_fore, .ref h_t_back, .int t_fewest, .ref h_t_got])), (h_t_told, jI D 8 g3), (h_t_touches, jZ D 32 t_touches_), (h_t_has, jI D 4 t_has_), (h_t_old, jI D 18 t_old_)]) (fun _ => rfl) h (fun g3 h => ?_)
  refine j_aload_n C dX10_begins_22 rfl 0 rfl ?_
  refine j_get C ibX10 (ci := 8) 0 rfl rfl 3 (by decide) bfX10_13 (v := .ref h_t_told) rfl dX10_begins_23 ?_
  refine j_bipush C dX10_begins_26 (v := (7 : Int32)) (by decide) ?_
  refine j_iconst C dX10_begins_28 (v := (0 : Int32)) (by decide) ?_
  refine j_iast C 1 rfl (by unfold vp_in; decide) dX10_begins_29 (ws' := fun g4 => [(h_t, .inr (8, [.int t_length, .ref h_t_text, .int t_at, .ref h_t_told, .ref h_t_touches, .ref h_t_has, .ref h_t_old, .ref h_t_beside, .int t_stones, .ref h_t_slot, .int t_kept, .int t_done, .int t_rows, .ref h_t_row, .ref h_t_free, .int t_frees, .ref h_t_worth, .ref h_t_fore, .ref h_t_back, .int t_fewest, .ref h_t_got])), (h_t_told, jI D 8 g4), (h_t_touches, jZ D 32 t_touches_), (h_t_has, jI D 4 t_has_), (h_t_old, jI D 18 t_old_)]) (fun _ => rfl) h (fun g4 h => ?_)
  refine j_aload_n C dX10_begins_30 rfl 0 rfl ?_
  refine j_get C ibX10 (ci := 8) 0 rfl rfl 5 (by decide) bfX10_21 (v := .ref h_t_has) rfl dX10_begins_31 ?_
  refine j_iconst C dX10_begins_34 (v := (2 : Int32)) (by decide) ?_
  refine j_iconst C dX10_begins_35 (v := (3 : Int32)) (by decide) ?_
  refine j_iast C 3 rfl (by unfold vp_in; decide) dX10_begins_36 (ws' := fun g5 => [(h_t, .inr (8, [.int t_length, .ref h_t_text, .int t_at, .ref h_t_told, .ref h_t_touches, .ref h_t_has, .ref h_t_old, .ref h_t_beside, .int t_stones, .ref h_t_slot, .int t_kept, .int t_done, .int t_rows, .ref h_t_row, .ref h_t_free, .int t_frees, .ref h_t_worth, .ref h_t_fore, .ref h_t_back, .int t_fewest, .ref h_t_got])), (h_t_told, jI D 8 g4), (h_t_touches, jZ D 32 t_touches_), (h_t_has, jI D 4 g5), (h_t_old, jI D 18 t_old_)]) (fun _ => rfl) h (fun g5 h => ?_)
  refine j_aload_n C dX10_begins_37 rfl 0 rfl ?_
  refine j_get C ibX10 (ci := 8) 0 rfl rfl 5 (by decide) bfX10_21 (v := .ref h_t_has) rfl dX10_begins_38 ?_
  refine j_iconst C dX10_begins_41 (v := (3 : Int32)) (by decide) ?_
  refine j_iconst C dX10_begins_42 (v := (3 : Int32)) (by decide) ?_
  refine j_iast C 3 rfl (by unfold vp_in; decide) dX10_begins_43 (ws' := fun g6 => [(h_t, .inr (8, [.int t_length, .ref h_t_text, .int t_at, .ref h_t_told, .ref h_t_touches, .ref h_t_has, .ref h_t_old, .ref h_t_beside, .int t_stones, .ref h_t_slot, .int t_kept, .int t_done, .int t_rows, .ref h_t_row, .ref h_t_free, .int t_frees, .ref h_t_worth, .ref h_t_fore, .ref h_t_back, .int t_fewest, .ref h_t_got])), (h_t_told, jI D 8 g4), (h_t_touches, jZ D 32 t_touches_), (h_t_has, jI D 4 g6), (h_t_old, jI D 18 t_old_)]) (fun _ => rfl) h (fun g6 h => ?_)
  refine j_iconst C dX10_begins_44 (v := (0 : Int32)) (by decide) ?_
  refine j_istore_nC C dX10_begins_45 rfl (lv' := [(1, .int ((0 : Int32))), (0, .ref h_t)]) (by decide) rfl ?_
  refine j_sub (lv' := [(0, .ref h_t), (1, .int ((0 : Int32)))]) [1, 0] rfl ?_
  exact L46 ((0 : Int32)) g4 t_touches_ g6 t_old_ h
theorem dX10_takes_0 : decode cX10_takes 0 = .ok (.iconst 0, 1) := by decide +kernel
theorem dX10_takes_1 : decode cX10_takes 1 = .ok (.istore_n 1, 1) := by decide +kernel
theorem dX10_takes_2 : decode cX10_takes 2 = .ok (.iload_n 1, 1) := by decide +kernel
theorem dX10_takes_3 : decode cX10_takes 3 = .ok (.bipush 16, 2) := by decide +kernel
theorem dX10_takes_5 : decode cX10_takes 5 = .ok (.if_icmp .ge 64, 3) := by decide +kernel
theorem dX10_takes_8 : decode cX10_takes 8 = .ok (.aload_n 0, 1) := by decide +kernel
theorem dX10_takes_9 : decode cX10_takes 9 = .ok (.getfield 17, 3) := by decide +kernel
theorem dX10_takes_12 : decode cX10_takes 12 = .ok (.iload_n 1, 1) := by decide +kernel
theorem dX10_takes_13 : decode cX10_takes 13 = .ok (.aload_n 0, 1) := by decide +kernel
theorem dX10_takes_14 : decode cX10_takes 14 = .ok (.getfield 17, 3) := by decide +kernel
theorem dX10_takes_17 : decode cX10_takes 17 = .ok (.bipush 16, 2) := by decide +kernel
theorem dX10_takes_19 : decode cX10_takes 19 = .ok (.iload_n 1, 1) := by decide +kernel
theorem dX10_takes_20 : decode cX10_takes 20 = .ok (.iadd, 1) := by decide +kernel
theorem dX10_takes_21 : decode cX10_takes 21 = .ok (.baload, 1) := by decide +kernel
theorem dX10_takes_22 : decode cX10_takes 22 = .ok (.bastore, 1) := by decide +kernel
theorem dX10_takes_23 : decode cX10_takes 23 = .ok (.iload_n 1, 1) := by decide +kernel
theorem dX10_takes_24 : decode cX10_takes 24 = .ok (.bipush 9, 2) := by decide +kernel
theorem dX10_takes_26 : decode cX10_takes 26 = .ok (.if_icmp .ge 18, 3) := by decide +kernel
theorem dX10_takes_29 : decode cX10_takes 29 = .ok (.aload_n 0, 1) := by decide +kernel
theorem dX10_takes_30 : decode cX10_takes 30 = .ok (.getfield 24, 3) := by decide +kernel
theorem dX10_takes_33 : decode cX10_takes 33 = .ok (.iload_n 1, 1) := by decide +kernel
theorem dX10_takes_34 : decode cX10_takes 34 = .ok (.aload_n 0, 1) := by decide +kernel
theorem dX10_takes_35 : decode cX10_takes 35 = .ok (.getfield 24, 3) := by decide +kernel
theorem dX10_takes_38 : decode cX10_takes 38 = .ok (.bipush 9, 2) := by decide +kernel
theorem dX10_takes_40 : decode cX10_takes 40 = .ok (.iload_n 1, 1) := by decide +kernel
theorem dX10_takes_41 : decode cX10_takes 41 = .ok (.iadd, 1) := by decide +kernel
theorem dX10_takes_42 : decode cX10_takes 42 = .ok (.iaload, 1) := by decide +kernel
theorem dX10_takes_43 : decode cX10_takes 43 = .ok (.iastore, 1) := by decide +kernel
theorem dX10_takes_44 : decode cX10_takes 44 = .ok (.iload_n 1, 1) := by decide +kernel
theorem dX10_takes_45 : decode cX10_takes 45 = .ok (.iconst 4, 1) := by decide +kernel
theorem dX10_takes_46 : decode cX10_takes 46 = .ok (.if_icmp .ge 17, 3) := by decide +kernel
theorem dX10_takes_49 : decode cX10_takes 49 = .ok (.aload_n 0, 1) := by decide +kernel
theorem dX10_takes_50 : decode cX10_takes 50 = .ok (.getfield 13, 3) := by decide +kernel
theorem dX10_takes_53 : decode cX10_takes 53 = .ok (.iload_n 1, 1) := by decide +kernel
theorem dX10_takes_54 : decode cX10_takes 54 = .ok (.aload_n 0, 1) := by decide +kernel
theorem dX10_takes_55 : decode cX10_takes 55 = .ok (.getfield 13, 3) := by decide +kernel
theorem dX10_takes_58 : decode cX10_takes 58 = .ok (.iconst 4, 1) := by decide +kernel
theorem dX10_takes_59 : decode cX10_takes 59 = .ok (.iload_n 1, 1) := by decide +kernel
theorem dX10_takes_60 : decode cX10_takes 60 = .ok (.iadd, 1) := by decide +kernel
theorem dX10_takes_61 : decode cX10_takes 61 = .ok (.iaload, 1) := by decide +kernel
theorem dX10_takes_62 : decode cX10_takes 62 = .ok (.iastore, 1) := by decide +kernel
theorem dX10_takes_63 : decode cX10_takes 63 = .ok (.iinc 1 1, 3) := by decide +kernel
theorem dX10_takes_66 : decode cX10_takes 66 = .ok (.goto (-64), 3) := by decide +kernel
theorem dX10_takes_69 : decode cX10_takes 69 = .ok (.aload_n 0, 1) := by decide +kernel
theorem dX10_takes_70 : decode cX10_takes 70 = .ok (.getfield 21, 3) := by decide +kernel
theorem dX10_takes_73 : decode cX10_takes 73 = .ok (.iconst 0, 1) := by decide +kernel
theorem dX10_takes_74 : decode cX10_takes 74 = .ok (.aload_n 0, 1) := by decide +kernel
theorem dX10_takes_75 : decode cX10_takes 75 = .ok (.getfield 21, 3) := by decide +kernel
theorem dX10_takes_78 : decode cX10_takes 78 = .ok (.iconst 2, 1) := by decide +kernel
theorem dX10_takes_79 : decode cX10_takes 79 = .ok (.iaload, 1) := by decide +kernel
theorem dX10_takes_80 : decode cX10_takes 80 = .ok (.iastore, 1) := by decide +kernel
theorem dX10_takes_81 : decode cX10_takes 81 = .ok (.aload_n 0, 1) := by decide +kernel
theorem dX10_takes_82 : decode cX10_takes 82 = .ok (.getfield 21, 3) := by decide +kernel
theorem dX10_takes_85 : decode cX10_takes 85 = .ok (.iconst 1, 1) := by decide +kernel
theorem dX10_takes_86 : decode cX10_takes 86 = .ok (.aload_n 0, 1) := by decide +kernel
theorem dX10_takes_87 : decode cX10_takes 87 = .ok (.getfield 21, 3) := by decide +kernel
theorem dX10_takes_90 : decode cX10_takes 90 = .ok (.iconst 3, 1) := by decide +kernel
theorem dX10_takes_91 : decode cX10_takes 91 = .ok (.iaload, 1) := by decide +kernel
theorem dX10_takes_92 : decode cX10_takes 92 = .ok (.iastore, 1) := by decide +kernel
theorem dX10_takes_93 : decode cX10_takes 93 = .ok (.aload_n 0, 1) := by decide +kernel
theorem dX10_takes_94 : decode cX10_takes 94 = .ok (.aload_n 0, 1) := by decide +kernel
theorem dX10_takes_95 : decode cX10_takes 95 = .ok (.getfield 13, 3) := by decide +kernel
theorem dX10_takes_98 : decode cX10_takes 98 = .ok (.iconst 0, 1) := by decide +kernel
theorem dX10_takes_99 : decode cX10_takes 99 = .ok (.iaload, 1) := by decide +kernel
theorem dX10_takes_100 : decode cX10_takes 100 = .ok (.aload_n 0, 1) := by decide +kernel
theorem dX10_takes_101 : decode cX10_takes 101 = .ok (.getfield 13, 3) := by decide +kernel
theorem dX10_takes_104 : decode cX10_takes 104 = .ok (.iconst 1, 1) := by decide +kernel
theorem dX10_takes_105 : decode cX10_takes 105 = .ok (.iaload, 1) := by decide +kernel
theorem dX10_takes_106 : decode cX10_takes 106 = .ok (.imul, 1) := by decide +kernel
theorem dX10_takes_107 : decode cX10_takes 107 = .ok (.putfield 91, 3) := by decide +kernel
theorem dX10_takes_110 : decode cX10_takes 110 = .ok (.iconst 0, 1) := by decide +kernel
theorem dX10_takes_111 : decode cX10_takes 111 = .ok (.istore_n 1, 1) := by decide +kernel
theorem dX10_takes_112 : decode cX10_takes 112 = .ok (.iload_n 1, 1) := by decide +kernel
theorem dX10_takes_113 : decode cX10_takes 113 = .ok (.aload_n 0, 1) := by decide +kernel
theorem dX10_takes_114 : decode cX10_takes 114 = .ok (.getfield 91, 3) := by decide +kernel
theorem dX10_takes_117 : decode cX10_takes 117 = .ok (.if_icmp .ge 98, 3) := by decide +kernel
theorem dX10_takes_120 : decode cX10_takes 120 = .ok (.aload_n 0, 1) := by decide +kernel
theorem dX10_takes_121 : decode cX10_takes 121 = .ok (.getfield 27, 3) := by decide +kernel
theorem dX10_takes_124 : decode cX10_takes 124 = .ok (.iload_n 1, 1) := by decide +kernel
theorem dX10_takes_125 : decode cX10_takes 125 = .ok (.iconst 0, 1) := by decide +kernel
theorem dX10_takes_126 : decode cX10_takes 126 = .ok (.iastore, 1) := by decide +kernel
theorem dX10_takes_127 : decode cX10_takes 127 = .ok (.iconst 0, 1) := by decide +kernel
theorem dX10_takes_128 : decode cX10_takes 128 = .ok (.istore_n 2, 1) := by decide +kernel
theorem dX10_takes_129 : decode cX10_takes 129 = .ok (.iload_n 2, 1) := by decide +kernel
theorem dX10_takes_130 : decode cX10_takes 130 = .ok (.aload_n 0, 1) := by decide +kernel
theorem dX10_takes_131 : decode cX10_takes 131 = .ok (.getfield 91, 3) := by decide +kernel
theorem dX10_takes_134 : decode cX10_takes 134 = .ok (.if_icmp .ge 75, 3) := by decide +kernel
theorem dX10_takes_137 : decode cX10_takes 137 = .ok (.iload_n 1, 1) := by decide +kernel
theorem dX10_takes_138 : decode cX10_takes 138 = .ok (.aload_n 0, 1) := by decide +kernel
theorem dX10_takes_139 : decode cX10_takes 139 = .ok (.getfield 13, 3) := by decide +kernel
theorem dX10_takes_142 : decode cX10_takes 142 = .ok (.iconst 1, 1) := by decide +kernel
theorem dX10_takes_143 : decode cX10_takes 143 = .ok (.iaload, 1) := by decide +kernel
theorem dX10_takes_144 : decode cX10_takes 144 = .ok (.idiv, 1) := by decide +kernel
theorem dX10_takes_145 : decode cX10_takes 145 = .ok (.iload_n 2, 1) := by decide +kernel
theorem dX10_takes_146 : decode cX10_takes 146 = .ok (.aload_n 0, 1) := by decide +kernel
theorem dX10_takes_147 : decode cX10_takes 147 = .ok (.getfield 13, 3) := by decide +kernel
theorem dX10_takes_150 : decode cX10_takes 150 = .ok (.iconst 1, 1) := by decide +kernel
theorem dX10_takes_151 : decode cX10_takes 151 = .ok (.iaload, 1) := by decide +kernel
theorem dX10_takes_152 : decode cX10_takes 152 = .ok (.idiv, 1) := by decide +kernel
theorem dX10_takes_153 : decode cX10_takes 153 = .ok (.isub, 1) := by decide +kernel
theorem dX10_takes_154 : decode cX10_takes 154 = .ok (.istore_n 3, 1) := by decide +kernel
theorem dX10_takes_155 : decode cX10_takes 155 = .ok (.iload_n 1, 1) := by decide +kernel
theorem dX10_takes_156 : decode cX10_takes 156 = .ok (.aload_n 0, 1) := by decide +kernel
theorem dX10_takes_157 : decode cX10_takes 157 = .ok (.getfield 13, 3) := by decide +kernel
theorem dX10_takes_160 : decode cX10_takes 160 = .ok (.iconst 1, 1) := by decide +kernel
theorem dX10_takes_161 : decode cX10_takes 161 = .ok (.iaload, 1) := by decide +kernel
theorem dX10_takes_162 : decode cX10_takes 162 = .ok (.irem, 1) := by decide +kernel
theorem dX10_takes_163 : decode cX10_takes 163 = .ok (.iload_n 2, 1) := by decide +kernel
theorem dX10_takes_164 : decode cX10_takes 164 = .ok (.aload_n 0, 1) := by decide +kernel
theorem dX10_takes_165 : decode cX10_takes 165 = .ok (.getfield 13, 3) := by decide +kernel
theorem dX10_takes_168 : decode cX10_takes 168 = .ok (.iconst 1, 1) := by decide +kernel
theorem dX10_takes_169 : decode cX10_takes 169 = .ok (.iaload, 1) := by decide +kernel
theorem dX10_takes_170 : decode cX10_takes 170 = .ok (.irem, 1) := by decide +kernel
theorem dX10_takes_171 : decode cX10_takes 171 = .ok (.isub, 1) := by decide +kernel
theorem dX10_takes_172 : decode cX10_takes 172 = .ok (.istore 4, 2) := by decide +kernel
theorem dX10_takes_174 : decode cX10_takes 174 = .ok (.aload_n 0, 1) := by decide +kernel
theorem dX10_takes_175 : decode cX10_takes 175 = .ok (.getfield 27, 3) := by decide +kernel
theorem dX10_takes_178 : decode cX10_takes 178 = .ok (.iload_n 1, 1) := by decide +kernel
theorem dX10_takes_179 : decode cX10_takes 179 = .ok (.dup2, 1) := by decide +kernel
theorem dX10_takes_180 : decode cX10_takes 180 = .ok (.iaload, 1) := by decide +kernel
theorem dX10_takes_181 : decode cX10_takes 181 = .ok (.iload_n 3, 1) := by decide +kernel
theorem dX10_takes_182 : decode cX10_takes 182 = .ok (.iload_n 3, 1) := by decide +kernel
theorem dX10_takes_183 : decode cX10_takes 183 = .ok (.imul, 1) := by decide +kernel
theorem dX10_takes_184 : decode cX10_takes 184 = .ok (.iload 4, 2) := by decide +kernel
theorem dX10_takes_186 : decode cX10_takes 186 = .ok (.iload 4, 2) := by decide +kernel
theorem dX10_takes_188 : decode cX10_takes 188 = .ok (.imul, 1) := by decide +kernel
theorem dX10_takes_189 : decode cX10_takes 189 = .ok (.iadd, 1) := by decide +kernel
theorem dX10_takes_190 : decode cX10_takes 190 = .ok (.iconst 1, 1) := by decide +kernel
theorem dX10_takes_191 : decode cX10_takes 191 = .ok (.if_icmp .ne 9, 3) := by decide +kernel
theorem dX10_takes_194 : decode cX10_takes 194 = .ok (.iconst 1, 1) := by decide +kernel
theorem dX10_takes_195 : decode cX10_takes 195 = .ok (.iload_n 2, 1) := by decide +kernel
theorem dX10_takes_196 : decode cX10_takes 196 = .ok (.ishl, 1) := by decide +kernel
theorem dX10_takes_197 : decode cX10_takes 197 = .ok (.goto 4, 3) := by decide +kernel
theorem dX10_takes_200 : decode cX10_takes 200 = .ok (.iconst 0, 1) := by decide +kernel
theorem dX10_takes_201 : decode cX10_takes 201 = .ok (.ior, 1) := by decide +kernel
theorem dX10_takes_202 : decode cX10_takes 202 = .ok (.iastore, 1) := by decide +kernel
theorem dX10_takes_203 : decode cX10_takes 203 = .ok (.iinc 2 1, 3) := by decide +kernel
theorem dX10_takes_206 : decode cX10_takes 206 = .ok (.goto (-77), 3) := by decide +kernel
theorem dX10_takes_209 : decode cX10_takes 209 = .ok (.iinc 1 1, 3) := by decide +kernel
theorem dX10_takes_212 : decode cX10_takes 212 = .ok (.goto (-100), 3) := by decide +kernel
theorem dX10_takes_215 : decode cX10_takes 215 = .ok (.iconst 0, 1) := by decide +kernel
theorem dX10_takes_216 : decode cX10_takes 216 = .ok (.istore_n 1, 1) := by decide +kernel
theorem dX10_takes_217 : decode cX10_takes 217 = .ok (.iload_n 1, 1) := by decide +kernel
theorem dX10_takes_218 : decode cX10_takes 218 = .ok (.bipush 20, 2) := by decide +kernel
theorem dX10_takes_220 : decode cX10_takes 220 = .ok (.if_icmp .ge 33, 3) := by decide +kernel
theorem dX10_takes_223 : decode cX10_takes 223 = .ok (.aload_n 0, 1) := by decide +kernel
theorem dX10_takes_224 : decode cX10_takes 224 = .ok (.getfield 30, 3) := by decide +kernel
theorem dX10_takes_227 : decode cX10_takes 227 = .ok (.iload_n 1, 1) := by decide +kernel
theorem dX10_takes_228 : decode cX10_takes 228 = .ok (.iload_n 1, 1) := by decide +kernel
theorem dX10_takes_229 : decode cX10_takes 229 = .ok (.aload_n 0, 1) := by decide +kernel
theorem dX10_takes_230 : decode cX10_takes 230 = .ok (.getfield 91, 3) := by decide +kernel
theorem dX10_takes_233 : decode cX10_takes 233 = .ok (.if_icmp .ge 12, 3) := by decide +kernel
theorem dX10_takes_236 : decode cX10_takes 236 = .ok (.aload_n 0, 1) := by decide +kernel
theorem dX10_takes_237 : decode cX10_takes 237 = .ok (.getfield 24, 3) := by decide +kernel
theorem dX10_takes_240 : decode cX10_takes 240 = .ok (.iload_n 1, 1) := by decide +kernel
theorem dX10_takes_241 : decode cX10_takes 241 = .ok (.iaload, 1) := by decide +kernel
theorem dX10_takes_242 : decode cX10_takes 242 = .ok (.goto 4, 3) := by decide +kernel
theorem dX10_takes_245 : decode cX10_takes 245 = .ok (.iconst 0, 1) := by decide +kernel
theorem dX10_takes_246 : decode cX10_takes 246 = .ok (.iastore, 1) := by decide +kernel
theorem dX10_takes_247 : decode cX10_takes 247 = .ok (.iinc 1 1, 3) := by decide +kernel
theorem dX10_takes_250 : decode cX10_takes 250 = .ok (.goto (-33), 3) := by decide +kernel
theorem dX10_takes_253 : decode cX10_takes 253 = .ok (.aload_n 0, 1) := by decide +kernel
theorem dX10_takes_254 : decode cX10_takes 254 = .ok (.iconst 0, 1) := by decide +kernel
theorem dX10_takes_255 : decode cX10_takes 255 = .ok (.putfield 94, 3) := by decide +kernel
theorem dX10_takes_258 : decode cX10_takes 258 = .ok (.aload_n 0, 1) := by decide +kernel
theorem dX10_takes_259 : decode cX10_takes 259 = .ok (.iconst 0, 1) := by decide +kernel
theorem dX10_takes_260 : decode cX10_takes 260 = .ok (.putfield 97, 3) := by decide +kernel
theorem dX10_takes_263 : decode cX10_takes 263 = .ok (.aload_n 0, 1) := by decide +kernel
theorem dX10_takes_264 : decode cX10_takes 264 = .ok (.iconst 0, 1) := by decide +kernel
theorem dX10_takes_265 : decode cX10_takes 265 = .ok (.putfield 100, 3) := by decide +kernel
theorem dX10_takes_268 : decode cX10_takes 268 = .ok (.return_, 1) := by decide +kernel
def fX10_takes_246 (F : Nat) (k217 : Int32 → Int32 → Int32 → Int32 → Int32 → (Nat → Int32) → (Nat → Int32) → (Nat → Int32) → (Nat → Int32) → (Nat → Int32) → (Nat → Int32) → Option (Int32 × Int32 × Int32 × Int32 × (Nat → Int32) × (Nat → Int32) × (Nat → Int32) × (Nat → Int32) × (Nat → Int32) × (Nat → Int32))) (x79 : Int32) (s80 : Int32) (s81 : Int32) (m_t_stones_82 : Int32) (m_t_kept_83 : Int32) (m_t_done_84 : Int32) (m_t_rows_85 : Int32) (m_t_told__86 : Nat → Int32) (m_t_touches__87 : Nat → Int32) (m_t_has__88 : Nat → Int32) (m_t_old__89 : Nat → Int32) (m_t_beside__90 : Nat → Int32) (m_t_slot__91 : Nat → Int32) : Option (Int32 × Int32 × Int32 × Int32 × (Nat → Int32) × (Nat → Int32) × (Nat → Int32) × (Nat → Int32) × (Nat → Int32) × (Nat → Int32)) :=
(if s81 < 0 ∨ 240 ≤ s81.toNatClampNeg then none else
(jl_let (upd m_t_slot__91 s81.toNatClampNeg s80) fun g119 =>
(jl_let (x79 + Int32.ofInt (1)) fun v120 =>
(k217 v120 m_t_stones_82 m_t_kept_83 m_t_done_84 m_t_rows_85 m_t_told__86 m_t_touches__87 m_t_has__88 m_t_old__89 m_t_beside__90 g119))))
def bX10_takes_217 (F : Nat)  (k217 : Int32 → Int32 → Int32 → Int32 → Int32 → (Nat → Int32) → (Nat → Int32) → (Nat → Int32) → (Nat → Int32) → (Nat → Int32) → (Nat → Int32) → Option (Int32 × Int32 × Int32 × Int32 × (Nat → Int32) × (Nat → Int32) × (Nat → Int32) × (Nat → Int32) × (Nat → Int32) × (Nat → Int32))) (x46 : Int32) (m_t_stones_47 : Int32) (m_t_kept_48 : Int32) (m_t_done_49 : Int32) (m_t_rows_50 : Int32) (m_t_told__51 : Nat → Int32) (m_t_touches__52 : Nat → Int32) (m_t_has__53 : Nat → Int32) (m_t_old__54 : Nat → Int32) (m_t_beside__55 : Nat → Int32) (m_t_slot__56 : Nat → Int32) : Option (Int32 × Int32 × Int32 × Int32 × (Nat → Int32) × (Nat → Int32) × (Nat → Int32) × (Nat → Int32) × (Nat → Int32) × (Nat → Int32)) :=
(if ((20 : Int32)) ≤ x46 then
(some (m_t_stones_47, (0 : Int32), (0 : Int32), (0 : Int32), m_t_told__51, m_t_touches__52, m_t_has__53, m_t_old__54, m_t_beside__55, m_t_slot__56))
else
(if m_t_stones_47 ≤ x46 then
(fX10_takes_246 F k217 x46 ((0 : Int32)) x46 m_t_stones_47 m_t_kept_48 m_t_done_49 m_t_rows_50 m_t_told__51 m_t_touches__52 m_t_has__53 m_t_old__54 m_t_beside__55 m_t_slot__56)
else
(if x46 < 0 ∨ 18 ≤ x46.toNatClampNeg then none else
(fX10_takes_246 F k217 x46 (m_t_old__54 x46.toNatClampNeg) x46 m_t_stones_47 m_t_kept_48 m_t_done_49 m_t_rows_50 m_t_told__51 m_t_touches__52 m_t_has__53 m_t_old__54 m_t_beside__55 m_t_slot__56))))
def lX10_takes_217 (F : Nat)  (F2 : Nat) (x46 : Int32) (m_t_stones_47 : Int32) (m_t_kept_48 : Int32) (m_t_done_49 : Int32) (m_t_rows_50 : Int32) (m_t_told__51 : Nat → Int32) (m_t_touches__52 : Nat → Int32) (m_t_has__53 : Nat → Int32) (m_t_old__54 : Nat → Int32) (m_t_beside__55 : Nat → Int32) (m_t_slot__56 : Nat → Int32) : Option (Int32 × Int32 × Int32 × Int32 × (Nat → Int32) × (Nat → Int32) × (Nat → Int32) × (Nat → Int32) × (Nat → Int32) × (Nat → Int32)) := jl_loop11 (bX10_takes_217 F ) F2 x46 m_t_stones_47 m_t_kept_48 m_t_done_49 m_t_rows_50 m_t_told__51 m_t_touches__52 m_t_has__53 m_t_old__54 m_t_beside__55 m_t_slot__56
def fX10_takes_201 (F : Nat) (k112 : Int32 → Int32 → Int32 → Int32 → Int32 → (Nat → Int32) → (Nat → Int32) → (Nat → Int32) → (Nat → Int32) → (Nat → Int32) → (Nat → Int32) → Option (Int32 × Int32 × Int32 × Int32 × (Nat → Int32) × (Nat → Int32) × (Nat → Int32) × (Nat → Int32) × (Nat → Int32) × (Nat → Int32))) (k129 : Int32 → Int32 → Int32 → Int32 → Int32 → Int32 → (Nat → Int32) → (Nat → Int32) → (Nat → Int32) → (Nat → Int32) → (Nat → Int32) → (Nat → Int32) → Option (Int32 × Int32 × Int32 × Int32 × (Nat → Int32) × (Nat → Int32) × (Nat → Int32) × (Nat → Int32) × (Nat → Int32) × (Nat → Int32))) (x103 : Int32) (x104 : Int32) (s105 : Int32) (s106 : Int32) (s107 : Int32) (m_t_stones_108 : Int32) (m_t_kept_109 : Int32) (m_t_done_110 : Int32) (m_t_rows_111 : Int32) (m_t_told__112 : Nat → Int32) (m_t_touches__113 : Nat → Int32) (m_t_has__114 : Nat → Int32) (m_t_old__115 : Nat → Int32) (m_t_beside__116 : Nat → Int32) (m_t_slot__117 : Nat → Int32) : Option (Int32 × Int32 × Int32 × Int32 × (Nat → Int32) × (Nat → Int32) × (Nat → Int32) × (Nat → Int32) × (Nat → Int32) × (Nat → Int32)) :=
(if s107 < 0 ∨ 9 ≤ s107.toNatClampNeg then none else
(jl_let (upd m_t_beside__116 s107.toNatClampNeg (s106 ||| s105)) fun g122 =>
(jl_let (x104 + Int32.ofInt (1)) fun v123 =>
(k129 x103 v123 m_t_stones_108 m_t_kept_109 m_t_done_110 m_t_rows_111 m_t_told__112 m_t_touches__113 m_t_has__114 m_t_old__115 g122 m_t_slot__117))))
def bX10_takes_129 (F : Nat) (k112 : Int32 → Int32 → Int32 → Int32 → Int32 → (Nat → Int32) → (Nat → Int32) → (Nat → Int32) → (Nat → Int32) → (Nat → Int32) → (Nat → Int32) → Option (Int32 × Int32 × Int32 × Int32 × (Nat → Int32) × (Nat → Int32) × (Nat → Int32) × (Nat → Int32) × (Nat → Int32) × (Nat → Int32))) (k129 : Int32 → Int32 → Int32 → Int32 → Int32 → Int32 → (Nat → Int32) → (Nat → Int32) → (Nat → Int32) → (Nat → Int32) → (Nat → Int32) → (Nat → Int32) → Option (Int32 × Int32 × Int32 × Int32 × (Nat → Int32) × (Nat → Int32) × (Nat → Int32) × (Nat → Int32) × (Nat → Int32) × (Nat → Int32))) (x59 : Int32) (x60 : Int32) (m_t_stones_61 : Int32) (m_t_kept_62 : Int32) (m_t_done_63 : Int32) (m_t_rows_64 : Int32) (m_t_told__65 : Nat → Int32) (m_t_touches__66 : Nat → Int32) (m_t_has__67 : Nat → Int32) (m_t_old__68 : Nat → Int32) (m_t_beside__69 : Nat → Int32) (m_t_slot__70 : Nat → Int32) : Option (Int32 × Int32 × Int32 × Int32 × (Nat → Int32) × (Nat → Int32) × (Nat → Int32) × (Nat → Int32) × (Nat → Int32) × (Nat → Int32)) :=
(if m_t_stones_61 ≤ x60 then
(jl_let (x59 + Int32.ofInt (1)) fun v94 =>
(k112 v94 m_t_stones_61 m_t_kept_62 m_t_done_63 m_t_rows_64 m_t_told__65 m_t_touches__66 m_t_has__67 m_t_old__68 m_t_beside__69 m_t_slot__70))
else
(if (m_t_told__65 ((1 : Int32)).toNatClampNeg) = 0 then none else
(if (m_t_told__65 ((1 : Int32)).toNatClampNeg) = 0 then none else
(jl_let ((x59 / (m_t_told__65 ((1 : Int32)).toNatClampNeg)) - (x60 / (m_t_told__65 ((1 : Int32)).toNatClampNeg))) fun v97 =>
(if (m_t_told__65 ((1 : Int32)).toNatClampNeg) = 0 then none else
(if (m_t_told__65 ((1 : Int32)).toNatClampNeg) = 0 then none else
(jl_let ((x59 - x59 / (m_t_told__65 ((1 : Int32)).toNatClampNeg) * (m_t_told__65 ((1 : Int32)).toNatClampNeg)) - (x60 - x60 / (m_t_told__65 ((1 : Int32)).toNatClampNeg) * (m_t_told__65 ((1 : Int32)).toNatClampNeg))) fun v100 =>
(if x59 < 0 ∨ 9 ≤ x59.toNatClampNeg then none else
(if ((v97 * v97) + (v100 * v100)) = ((1 : Int32)) then
(fX10_takes_201 F k112 k129 x59 x60 (((1 : Int32)) <<< (x60 &&& 31)) (m_t_beside__69 x59.toNatClampNeg) x59 m_t_stones_61 m_t_kept_62 m_t_done_63 m_t_rows_64 m_t_told__65 m_t_touches__66 m_t_has__67 m_t_old__68 m_t_beside__69 m_t_slot__70)
else
(fX10_takes_201 F k112 k129 x59 x60 ((0 : Int32)) (m_t_beside__69 x59.toNatClampNeg) x59 m_t_stones_61 m_t_kept_62 m_t_done_63 m_t_rows_64 m_t_told__65 m_t_touches__66 m_t_has__67 m_t_old__68 m_t_beside__69 m_t_slot__70))))))))))
def lX10_takes_129 (F : Nat) (k112 : Int32 → Int32 → Int32 → Int32 → Int32 → (Nat → Int32) → (Nat → Int32) → (Nat → Int32) → (Nat → Int32) → (Nat → Int32) → (Nat → Int32) → Option (Int32 × Int32 × Int32 × Int32 × (Nat → Int32) × (Nat → Int32) × (Nat → Int32) × (Nat → Int32) × (Nat → Int32) × (Nat → Int32))) (F2 : Nat) (x59 : Int32) (x60 : Int32) (m_t_stones_61 : Int32) (m_t_kept_62 : Int32) (m_t_done_63 : Int32) (m_t_rows_64 : Int32) (m_t_told__65 : Nat → Int32) (m_t_touches__66 : Nat → Int32) (m_t_has__67 : Nat → Int32) (m_t_old__68 : Nat → Int32) (m_t_beside__69 : Nat → Int32) (m_t_slot__70 : Nat → Int32) : Option (Int32 × Int32 × Int32 × Int32 × (Nat → Int32) × (Nat → Int32) × (Nat → Int32) × (Nat → Int32) × (Nat → Int32) × (Nat → Int32)) := jl_loop12 (bX10_takes_129 F k112) F2 x59 x60 m_t_stones_61 m_t_kept_62 m_t_done_63 m_t_rows_64 m_t_told__65 m_t_touches__66 m_t_has__67 m_t_old__68 m_t_beside__69 m_t_slot__70
def bX10_takes_112 (F : Nat)  (k112 : Int32 → Int32 → Int32 → Int32 → Int32 → (Nat → Int32) → (Nat → Int32) → (Nat → Int32) → (Nat → Int32) → (Nat → Int32) → (Nat → Int32) → Option (Int32 × Int32 × Int32 × Int32 × (Nat → Int32) × (Nat → Int32) × (Nat → Int32) × (Nat → Int32) × (Nat → Int32) × (Nat → Int32))) (x16 : Int32) (m_t_stones_17 : Int32) (m_t_kept_18 : Int32) (m_t_done_19 : Int32) (m_t_rows_20 : Int32) (m_t_told__21 : Nat → Int32) (m_t_touches__22 : Nat → Int32) (m_t_has__23 : Nat → Int32) (m_t_old__24 : Nat → Int32) (m_t_beside__25 : Nat → Int32) (m_t_slot__26 : Nat → Int32) : Option (Int32 × Int32 × Int32 × Int32 × (Nat → Int32) × (Nat → Int32) × (Nat → Int32) × (Nat → Int32) × (Nat → Int32) × (Nat → Int32)) :=
(if m_t_stones_17 ≤ x16 then
(lX10_takes_217 F F ((0 : Int32)) m_t_stones_17 m_t_kept_18 m_t_done_19 m_t_rows_20 m_t_told__21 m_t_touches__22 m_t_has__23 m_t_old__24 m_t_beside__25 m_t_slot__26)
else
(if x16 < 0 ∨ 9 ≤ x16.toNatClampNeg then none else
(jl_let (upd m_t_beside__25 x16.toNatClampNeg ((0 : Int32))) fun g58 =>
(lX10_takes_129 F k112 F x16 ((0 : Int32)) m_t_stones_17 m_t_kept_18 m_t_done_19 m_t_rows_20 m_t_told__21 m_t_touches__22 m_t_has__23 m_t_old__24 g58 m_t_slot__26))))
def lX10_takes_112 (F : Nat)  (F2 : Nat) (x16 : Int32) (m_t_stones_17 : Int32) (m_t_kept_18 : Int32) (m_t_done_19 : Int32) (m_t_rows_20 : Int32) (m_t_told__21 : Nat → Int32) (m_t_touches__22 : Nat → Int32) (m_t_has__23 : Nat → Int32) (m_t_old__24 : Nat → Int32) (m_t_beside__25 : Nat → Int32) (m_t_slot__26 : Nat → Int32) : Option (Int32 × Int32 × Int32 × Int32 × (Nat → Int32) × (Nat → Int32) × (Nat → Int32) × (Nat → Int32) × (Nat → Int32) × (Nat → Int32)) := jl_loop11 (bX10_takes_112 F ) F2 x16 m_t_stones_17 m_t_kept_18 m_t_done_19 m_t_rows_20 m_t_told__21 m_t_touches__22 m_t_has__23 m_t_old__24 m_t_beside__25 m_t_slot__26
def fX10_takes_44 (F : Nat) (k2 : Int32 → Int32 → Int32 → Int32 → Int32 → (Nat → Int32) → (Nat → Int32) → (Nat → Int32) → (Nat → Int32) → (Nat → Int32) → (Nat → Int32) → Option (Int32 × Int32 × Int32 × Int32 × (Nat → Int32) × (Nat → Int32) × (Nat → Int32) × (Nat → Int32) × (Nat → Int32) × (Nat → Int32))) (x31 : Int32) (m_t_stones_32 : Int32) (m_t_kept_33 : Int32) (m_t_done_34 : Int32) (m_t_rows_35 : Int32) (m_t_told__36 : Nat → Int32) (m_t_touches__37 : Nat → Int32) (m_t_has__38 : Nat → Int32) (m_t_old__39 : Nat → Int32) (m_t_beside__40 : Nat → Int32) (m_t_slot__41 : Nat → Int32) : Option (Int32 × Int32 × Int32 × Int32 × (Nat → Int32) × (Nat → Int32) × (Nat → Int32) × (Nat → Int32) × (Nat → Int32) × (Nat → Int32)) :=
(if ((4 : Int32)) ≤ x31 then
(jl_let (x31 + Int32.ofInt (1)) fun v72 =>
(k2 v72 m_t_stones_32 m_t_kept_33 m_t_done_34 m_t_rows_35 m_t_told__36 m_t_touches__37 m_t_has__38 m_t_old__39 m_t_beside__40 m_t_slot__41))
else
(if (((4 : Int32)) + x31) < 0 ∨ 8 ≤ (((4 : Int32)) + x31).toNatClampNeg then none else
(if x31 < 0 ∨ 8 ≤ x31.toNatClampNeg then none else
(jl_let (upd m_t_told__36 x31.toNatClampNeg (m_t_told__36 (((4 : Int32)) + x31).toNatClampNeg)) fun g75 =>
(jl_let (x31 + Int32.ofInt (1)) fun v76 =>
(k2 v76 m_t_stones_32 m_t_kept_33 m_t_done_34 m_t_rows_35 g75 m_t_touches__37 m_t_has__38 m_t_old__39 m_t_beside__40 m_t_slot__41))))))
def bX10_takes_2 (F : Nat)  (k2 : Int32 → Int32 → Int32 → Int32 → Int32 → (Nat → Int32) → (Nat → Int32) → (Nat → Int32) → (Nat → Int32) → (Nat → Int32) → (Nat → Int32) → Option (Int32 × Int32 × Int32 × Int32 × (Nat → Int32) × (Nat → Int32) × (Nat → Int32) × (Nat → Int32) × (Nat → Int32) × (Nat → Int32))) (x1 : Int32) (m_t_stones_2 : Int32) (m_t_kept_3 : Int32) (m_t_done_4 : Int32) (m_t_rows_5 : Int32) (m_t_told__6 : Nat → Int32) (m_t_touches__7 : Nat → Int32) (m_t_has__8 : Nat → Int32) (m_t_old__9 : Nat → Int32) (m_t_beside__10 : Nat → Int32) (m_t_slot__11 : Nat → Int32) : Option (Int32 × Int32 × Int32 × Int32 × (Nat → Int32) × (Nat → Int32) × (Nat → Int32) × (Nat → Int32) × (Nat → Int32) × (Nat → Int32)) :=
(if ((16 : Int32)) ≤ x1 then
(jl_let (upd m_t_has__8 ((0 : Int32)).toNatClampNeg (m_t_has__8 ((2 : Int32)).toNatClampNeg)) fun g13 =>
(jl_let (upd g13 ((1 : Int32)).toNatClampNeg (g13 ((3 : Int32)).toNatClampNeg)) fun g14 =>
(jl_let ((m_t_told__6 ((0 : Int32)).toNatClampNeg) * (m_t_told__6 ((1 : Int32)).toNatClampNeg)) fun w15 =>
(lX10_takes_112 F F ((0 : Int32)) w15 m_t_kept_3 m_t_done_4 m_t_rows_5 m_t_told__6 m_t_touches__7 g14 m_t_old__9 m_t_beside__10 m_t_slot__11))))
else
(if (((16 : Int32)) + x1) < 0 ∨ 32 ≤ (((16 : Int32)) + x1).toNatClampNeg then none else
(if x1 < 0 ∨ 32 ≤ x1.toNatClampNeg then none else
(jl_let (upd m_t_touches__7 x1.toNatClampNeg (vp_nar .boolean (m_t_touches__7 (((16 : Int32)) + x1).toNatClampNeg))) fun g29 =>
(if ((9 : Int32)) ≤ x1 then
(fX10_takes_44 F k2 x1 m_t_stones_2 m_t_kept_3 m_t_done_4 m_t_rows_5 m_t_told__6 g29 m_t_has__8 m_t_old__9 m_t_beside__10 m_t_slot__11)
else
(if (((9 : Int32)) + x1) < 0 ∨ 18 ≤ (((9 : Int32)) + x1).toNatClampNeg then none else
(if x1 < 0 ∨ 18 ≤ x1.toNatClampNeg then none else
(jl_let (upd m_t_old__9 x1.toNatClampNeg (m_t_old__9 (((9 : Int32)) + x1).toNatClampNeg)) fun g44 =>
(fX10_takes_44 F k2 x1 m_t_stones_2 m_t_kept_3 m_t_done_4 m_t_rows_5 m_t_told__6 g29 m_t_has__8 g44 m_t_beside__10 m_t_slot__11)))))))))
def lX10_takes_2 (F : Nat)  (F2 : Nat) (x1 : Int32) (m_t_stones_2 : Int32) (m_t_kept_3 : Int32) (m_t_done_4 : Int32) (m_t_rows_5 : Int32) (m_t_told__6 : Nat → Int32) (m_t_touches__7 : Nat → Int32) (m_t_has__8 : Nat → Int32) (m_t_old__9 : Nat → Int32) (m_t_beside__10 : Nat → Int32) (m_t_slot__11 : Nat → Int32) : Option (Int32 × Int32 × Int32 × Int32 × (Nat → Int32) × (Nat → Int32) × (Nat → Int32) × (Nat → Int32) × (Nat → Int32) × (Nat → Int32)) := jl_loop11 (bX10_takes_2 F ) F2 x1 m_t_stones_2 m_t_kept_3 m_t_done_4 m_t_rows_5 m_t_told__6 m_t_touches__7 m_t_has__8 m_t_old__9 m_t_beside__10 m_t_slot__11
def fX10_takes (F : Nat) (t_stones : Int32) (t_kept : Int32) (t_done : Int32) (t_rows : Int32) (t_told_ : Nat → Int32) (t_touches_ : Nat → Int32) (t_has_ : Nat → Int32) (t_old_ : Nat → Int32) (t_beside_ : Nat → Int32) (t_slot_ : Nat → Int32) : Option (Int32 × Int32 × Int32 × Int32 × (Nat → Int32) × (Nat → Int32) × (Nat → Int32) × (Nat → Int32) × (Nat → Int32) × (Nat → Int32)) :=
(lX10_takes_2 F F ((0 : Int32)) t_stones t_kept t_done t_rows t_told_ t_touches_ t_has_ t_old_ t_beside_ t_slot_)
def oX10_takes (D : jv_D) (h_t : Nat) (h_t_text : Nat) (h_t_told : Nat) (h_t_touches : Nat) (h_t_has : Nat) (h_t_old : Nat) (h_t_beside : Nat) (h_t_slot : Nat) (h_t_row : Nat) (h_t_free : Nat) (h_t_worth : Nat) (h_t_fore : Nat) (h_t_back : Nat) (h_t_got : Nat) (t_length : Int32) (t_at : Int32) (t_frees : Int32) (t_fewest : Int32) (r : Int32 × Int32 × Int32 × Int32 × (Nat → Int32) × (Nat → Int32) × (Nat → Int32) × (Nat → Int32) × (Nat → Int32) × (Nat → Int32)) : va_W := [(h_t, .inr (8, [.int t_length, .ref h_t_text, .int t_at, .ref h_t_told, .ref h_t_touches, .ref h_t_has, .ref h_t_old, .ref h_t_beside, .int r.1, .ref h_t_slot, .int r.2.1, .int r.2.2.1, .int r.2.2.2.1, .ref h_t_row, .ref h_t_free, .int t_frees, .ref h_t_worth, .ref h_t_fore, .ref h_t_back, .int t_fewest, .ref h_t_got])), (h_t_told, jI D 8 r.2.2.2.2.1), (h_t_touches, jZ D 32 r.2.2.2.2.2.1), (h_t_has, jI D 4 r.2.2.2.2.2.2.1), (h_t_old, jI D 18 r.2.2.2.2.2.2.2.1), (h_t_beside, jI D 9 r.2.2.2.2.2.2.2.2.1), (h_t_slot, jI D 240 r.2.2.2.2.2.2.2.2.2)]
set_option maxHeartbeats 40000000 in
set_option maxRecDepth 100000 in
theorem mX10_takes (l : Launch) (D : jv_D) (F : Nat) (h_t : Nat) (h_t_text : Nat) (h_t_told : Nat) (h_t_touches : Nat) (h_t_has : Nat) (h_t_old : Nat) (h_t_beside : Nat) (h_t_slot : Nat) (h_t_row : Nat) (h_t_free : Nat) (h_t_worth : Nat) (h_t_fore : Nat) (h_t_back : Nat) (h_t_got : Nat) (t_length : Int32) (t_at : Int32) (t_stones : Int32) (t_kept : Int32) (t_done : Int32) (t_rows : Int32) (t_frees : Int32) (t_fewest : Int32) (t_told_ : Nat → Int32) (t_touches_ : Nat → Int32) (t_has_ : Nat → Int32) (t_old_ : Nat → Int32) (t_beside_ : Nat → Int32) (t_slot_ : Nat → Int32) (r : Int32 × Int32 × Int32 × Int32 × (Nat → Int32) × (Nat → Int32) × (Nat → Int32) × (Nat → Int32) × (Nat → Int32) × (Nat → Int32)) (h : fX10_takes F t_stones t_kept t_done t_rows t_told_ t_touches_ t_has_ t_old_ t_beside_ t_slot_ = some r) : MM l yX10_takes (jW yX10_takes cX10_takes 5 none) ({ frames := 0, cells := 0, slots := 0, locals := 0 }) D [.ref h_t] [(h_t, .inr (8, [.int t_length, .ref h_t_text, .int t_at, .ref h_t_told, .ref h_t_touches, .ref h_t_has, .ref h_t_old, .ref h_t_beside, .int t_stones, .ref h_t_slot, .int t_kept, .int t_done, .int t_rows, .ref h_t_row, .ref h_t_free, .int t_frees, .ref h_t_worth, .ref h_t_fore, .ref h_t_back, .int t_fewest, .ref h_t_got])), (h_t_told, jI D 8 t_told_), (h_t_touches, jZ D 32 t_touches_), (h_t_has, jI D 4 t_has_), (h_t_old, jI D 18 t_old_), (h_t_beside, jI D 9 t_beside_), (h_t_slot, jI D 240 t_slot_)] none (oX10_takes D h_t h_t_text h_t_told h_t_touches h_t_has h_t_old h_t_beside h_t_slot h_t_row h_t_free h_t_worth h_t_fore h_t_back h_t_got t_length t_at t_frees t_fewest r) := by
  refine mn_of hpX10_takes (Nat.le_of_ble_eq_true rfl) ?_
  intro X hXl C E0 hN
  subst hXl
  replace C : JC D X 5 RX10 cX10_takes ({ frames := 0, cells := 0, slots := 0, locals := 0 }) := C
  have E : JE D X 0 0 none (fun _ : Unit => none) (fun _ : Unit => (oX10_takes D h_t h_t_text h_t_told h_t_touches h_t_has h_t_old h_t_beside h_t_slot h_t_row h_t_free h_t_worth h_t_fore h_t_back h_t_got t_length t_at t_frees t_fewest r)) := E0 0 0 rfl rfl
  clear E0 hN
  show JJ D X 5 0 0 0 [(0, .ref h_t)] [] [(h_t, .inr (8, [.int t_length, .ref h_t_text, .int t_at, .ref h_t_told, .ref h_t_touches, .ref h_t_has, .ref h_t_old, .ref h_t_beside, .int t_stones, .ref h_t_slot, .int t_kept, .int t_done, .int t_rows, .ref h_t_row, .ref h_t_free, .int t_frees, .ref h_t_worth, .ref h_t_fore, .ref h_t_back, .int t_fewest, .ref h_t_got])), (h_t_told, jI D 8 t_told_), (h_t_touches, jZ D 32 t_touches_), (h_t_has, jI D 4 t_has_), (h_t_old, jI D 18 t_old_), (h_t_beside, jI D 9 t_beside_), (h_t_slot, jI D 240 t_slot_)]
  unfold fX10_takes at h
  have L217 : ∀ (x46 : Int32) (m_t_stones_47 : Int32) (m_t_kept_48 : Int32) (m_t_done_49 : Int32) (m_t_rows_50 : Int32) (m_t_told__51 : Nat → Int32) (m_t_touches__52 : Nat → Int32) (m_t_has__53 : Nat → Int32) (m_t_old__54 : Nat → Int32) (m_t_beside__55 : Nat → Int32) (m_t_slot__56 : Nat → Int32), lX10_takes_217 F  F x46 m_t_stones_47 m_t_kept_48 m_t_done_49 m_t_rows_50 m_t_told__51 m_t_touches__52 m_t_has__53 m_t_old__54 m_t_beside__55 m_t_slot__56 = some r → JJ D X 5 0 0 217 [(0, .ref h_t), (1, .int x46)] [] [(h_t, .inr (8, [.int t_length, .ref h_t_text, .int t_at, .ref h_t_told, .ref h_t_touches, .ref h_t_has, .ref h_t_old, .ref h_t_beside, .int m_t_stones_47, .ref h_t_slot, .int m_t_kept_48, .int m_t_done_49, .int m_t_rows_50, .ref h_t_row, .ref h_t_free, .int t_frees, .ref h_t_worth, .ref h_t_fore, .ref h_t_back, .int t_fewest, .ref h_t_got])), (h_t_told, jI D 8 m_t_told__51), (h_t_touches, jZ D 32 m_t_touches__52), (h_t_has, jI D 4 m_t_has__53), (h_t_old, jI D 18 m_t_old__54), (h_t_beside, jI D 9 m_t_beside__55), (h_t_slot, jI D 240 m_t_slot__56)] := by
    intro x46 m_t_stones_47 m_t_kept_48 m_t_done_49 m_t_rows_50 m_t_told__51 m_t_touches__52 m_t_has__53 m_t_old__54 m_t_beside__55 m_t_slot__56 h
    refine jl_ind11 (fun x46 m_t_stones_47 m_t_kept_48 m_t_done_49 m_t_rows_50 m_t_told__51 m_t_touches__52 m_t_has__53 m_t_old__54 m_t_beside__55 m_t_slot__56 => JJ D X 5 0 0 217 [(0, .ref h_t), (1, .int x46)] [] [(h_t, .inr (8, [.int t_length, .ref h_t_text, .int t_at, .ref h_t_told, .ref h_t_touches, .ref h_t_has, .ref h_t_old, .ref h_t_beside, .int m_t_stones_47, .ref h_t_slot, .int m_t_kept_48, .int m_t_done_49, .int m_t_rows_50, .ref h_t_row, .ref h_t_free, .int t_frees, .ref h_t_worth, .ref h_t_fore, .ref h_t_back, .int t_fewest, .ref h_t_got])), (h_t_told, jI D 8 m_t_told__51), (h_t_touches, jZ D 32 m_t_touches__52), (h_t_has, jI D 4 m_t_has__53), (h_t_old, jI D 18 m_t_old__54), (h_t_beside, jI D 9 m_t_beside__55), (h_t_slot, jI D 240 m_t_slot__56)]) ?_ F x46 m_t_stones_47 m_t_kept_48 m_t_done_49 m_t_rows_50 m_t_told__51 m_t_touches__52 m_t_has__53 m_t_old__54 m_t_beside__55 m_t_slot__56 h
    clear h x46 m_t_stones_47 m_t_kept_48 m_t_done_49 m_t_rows_50 m_t_told__51 m_t_touches__52 m_t_has__53 m_t_old__54 m_t_beside__55 m_t_slot__56
    intro k217 i217 x46 m_t_stones_47 m_t_kept_48 m_t_done_49 m_t_rows_50 m_t_told__51 m_t_touches__52 m_t_has__53 m_t_old__54 m_t_beside__55 m_t_slot__56 h
    replace i217 : ∀ (x46 : Int32) (m_t_stones_47 : Int32) (m_t_kept_48 : Int32) (m_t_done_49 : Int32) (m_t_rows_50 : Int32) (m_t_told__51 : Nat → Int32) (m_t_touches__52 : Nat → Int32) (m_t_has__53 : Nat → Int32) (m_t_old__54 : Nat → Int32) (m_t_beside__55 : Nat → Int32) (m_t_slot__56 : Nat → Int32), k217 x46 m_t_stones_47 m_t_kept_48 m_t_done_49 m_t_rows_50 m_t_told__51 m_t_touches__52 m_t_has__53 m_t_old__54 m_t_beside__55 m_t_slot__56 = some r → JJ D X 5 0 0 217 [(0, .ref h_t), (1, .int x46)] [] [(h_t, .inr (8, [.int t_length, .ref h_t_text, .int t_at, .ref h_t_told, .ref h_t_touches, .ref h_t_has, .ref h_t_old, .ref h_t_beside, .int m_t_stones_47, .ref h_t_slot, .int m_t_kept_48, .int m_t_done_49, .int m_t_rows_50, .ref h_t_row, .ref h_t_free, .int t_frees, .ref h_t_worth, .ref h_t_fore, .ref h_t_back, .int t_fewest, .ref h_t_got])), (h_t_told, jI D 8 m_t_told__51), (h_t_touches, jZ D 32 m_t_touches__52), (h_t_has, jI D 4 m_t_has__53), (h_t_old, jI D 18 m_t_old__54), (h_t_beside, jI D 9 m_t_beside__55), (h_t_slot, jI D 240 m_t_slot__56)] := i217
    show JJ D X 5 0 0 217 [(0, .ref h_t), (1, .int x46)] [] [(h_t, .inr (8, [.int t_length, .ref h_t_text, .int t_at, .ref h_t_told, .ref h_t_touches, .ref h_t_has, .ref h_t_old, .ref h_t_beside, .int m_t_stones_47, .ref h_t_slot, .int m_t_kept_48, .int m_t_done_49, .int m_t_rows_50, .ref h_t_row, .ref h_t_free, .int t_frees, .ref h_t_worth, .ref h_t_fore, .ref h_t_back, .int t_fewest, .ref h_t_got])), (h_t_told, jI D 8 m_t_told__51), (h_t_touches, jZ D 32 m_t_touches__52), (h_t_has, jI D 4 m_t_has__53), (h_t_old, jI D 18 m_t_old__54), (h_t_beside, jI D 9 m_t_beside__55), (h_t_slot, jI D 240 m_t_slot__56)]
    unfold bX10_takes_217 at h
    have L246 : ∀ (x79 : Int32) (s80 : Int32) (s81 : Int32) (m_t_stones_82 : Int32) (m_t_kept_83 : Int32) (m_t_done_84 : Int32) (m_t_rows_85 : Int32) (m_t_told__86 : Nat → Int32) (m_t_touches__87 : Nat → Int32) (m_t_has__88 : Nat → Int32) (m_t_old__89 : Nat → Int32) (m_t_beside__90 : Nat → Int32) (m_t_slot__91 : Nat → Int32), fX10_takes_246 F k217 x79 s80 s81 m_t_stones_82 m_t_kept_83 m_t_done_84 m_t_rows_85 m_t_told__86 m_t_touches__87 m_t_has__88 m_t_old__89 m_t_beside__90 m_t_slot__91 = some r → JJ D X 5 0 0 246 [(0, .ref h_t), (1, .int x79)] [.int s80, .int s81, .ref h_t_slot] [(h_t, .inr (8, [.int t_length, .ref h_t_text, .int t_at, .ref h_t_told, .ref h_t_touches, .ref h_t_has, .ref h_t_old, .ref h_t_beside, .int m_t_stones_82, .ref h_t_slot, .int m_t_kept_83, .int m_t_done_84, .int m_t_rows_85, .ref h_t_row, .ref h_t_free, .int t_frees, .ref h_t_worth, .ref h_t_fore, .ref h_t_back, .int t_fewest, .ref h_t_got])), (h_t_told, jI D 8 m_t_told__86), (h_t_touches, jZ D 32 m_t_touches__87), (h_t_has, jI D 4 m_t_has__88), (h_t_old, jI D 18 m_t_old__89), (h_t_beside, jI D 9 m_t_beside__90), (h_t_slot, jI D 240 m_t_slot__91)] := by
      intro x79 s80 s81 m_t_stones_82 m_t_kept_83 m_t_done_84 m_t_rows_85 m_t_told__86 m_t_touches__87 m_t_has__88 m_t_old__89 m_t_beside__90 m_t_slot__91 h
      unfold fX10_takes_246 at h
      refine jl_inb h (fun b118 h => ?_)
      refine j_iast C 6 rfl b118 dX10_takes_246 (ws' := fun g119 => [(h_t, .inr (8, [.int t_length, .ref h_t_text, .int t_at, .ref h_t_told, .ref h_t_touches, .ref h_t_has, .ref h_t_old, .ref h_t_beside, .int m_t_stones_82, .ref h_t_slot, .int m_t_kept_83, .int m_t_done_84, .int m_t_rows_85, .ref h_t_row, .ref h_t_free, .int t_frees, .ref h_t_worth, .ref h_t_fore, .ref h_t_back, .int t_fewest, .ref h_t_got])), (h_t_told, jI D 8 m_t_told__86), (h_t_touches, jZ D 32 m_t_touches__87), (h_t_has, jI D 4 m_t_has__88), (h_t_old, jI D 18 m_t_old__89), (h_t_beside, jI D 9 m_t_beside__90), (h_t_slot, jI D 240 g119)]) (fun _ => rfl) h (fun g119 h => ?_)
      refine j_iinc C dX10_takes_247 1 rfl (lv' := fun v120 => [(1, .int v120), (0, .ref h_t)]) (by decide) (fun _ => rfl) h (fun v120 h => ?_)
      refine j_goto C dX10_takes_250 (tgt := 217) (by decide) ?_
      refine j_sub (lv' := [(0, .ref h_t), (1, .int v120)]) [1, 0] rfl ?_
      exact i217 v120 m_t_stones_82 m_t_kept_83 m_t_done_84 m_t_rows_85 m_t_told__86 m_t_touches__87 m_t_has__88 m_t_old__89 m_t_beside__90 g119 h
    refine j_iload_n C dX10_takes_217 rfl 1 rfl ?_
    refine j_bipush C dX10_takes_218 (v := (20 : Int32)) (by decide) ?_
    refine j_icmp_ge C (tgt := 253) dX10_takes_220 (by decide) h (fun c77 h => ?_) (fun c77 h => ?_)
    · refine j_aload_n C dX10_takes_253 rfl 0 rfl ?_
      refine j_iconst C dX10_takes_254 (v := (0 : Int32)) (by decide) ?_
      refine j_put C ibX10 tyX10 tyX10_ok nmX10 (ci := 8) 0 rfl rfl 12 (by decide) bfX10_94 rfl rfl rfl (Nat.le_of_ble_eq_true rfl) dX10_takes_255 (ws' := [(h_t, .inr (8, [.int t_length, .ref h_t_text, .int t_at, .ref h_t_told, .ref h_t_touches, .ref h_t_has, .ref h_t_old, .ref h_t_beside, .int m_t_stones_47, .ref h_t_slot, .int m_t_kept_48, .int m_t_done_49, .int ((0 : Int32)), .ref h_t_row, .ref h_t_free, .int t_frees, .ref h_t_worth, .ref h_t_fore, .ref h_t_back, .int t_fewest, .ref h_t_got])), (h_t_told, jI D 8 m_t_told__51), (h_t_touches, jZ D 32 m_t_touches__52), (h_t_has, jI D 4 m_t_has__53), (h_t_old, jI D 18 m_t_old__54), (h_t_beside, jI D 9 m_t_beside__55), (h_t_slot, jI D 240 m_t_slot__56)]) rfl ?_
      refine j_aload_n C dX10_takes_258 rfl 0 rfl ?_
      refine j_iconst C dX10_takes_259 (v := (0 : Int32)) (by decide) ?_
      refine j_put C ibX10 tyX10 tyX10_ok nmX10 (ci := 8) 0 rfl rfl 11 (by decide) bfX10_97 rfl rfl rfl (Nat.le_of_ble_eq_true rfl) dX10_takes_260 (ws' := [(h_t, .inr (8, [.int t_length, .ref h_t_text, .int t_at, .ref h_t_told, .ref h_t_touches, .ref h_t_has, .ref h_t_old, .ref h_t_beside, .int m_t_stones_47, .ref h_t_slot, .int m_t_kept_48, .int ((0 : Int32)), .int ((0 : Int32)), .ref h_t_row, .ref h_t_free, .int t_frees, .ref h_t_worth, .ref h_t_fore, .ref h_t_back, .int t_fewest, .ref h_t_got])), (h_t_told, jI D 8 m_t_told__51), (h_t_touches, jZ D 32 m_t_touches__52), (h_t_has, jI D 4 m_t_has__53), (h_t_old, jI D 18 m_t_old__54), (h_t_beside, jI D 9 m_t_beside__55), (h_t_slot, jI D 240 m_t_slot__56)]) rfl ?_
      refine j_aload_n C dX10_takes_263 rfl 0 rfl ?_
      refine j_iconst C dX10_takes_264 (v := (0 : Int32)) (by decide) ?_
      refine j_put C ibX10 tyX10 tyX10_ok nmX10 (ci := 8) 0 rfl rfl 10 (by decide) bfX10_100 rfl rfl rfl (Nat.le_of_ble_eq_true rfl) dX10_takes_265 (ws' := [(h_t, .inr (8, [.int t_length, .ref h_t_text, .int t_at, .ref h_t_told, .ref h_t_touches, .ref h_t_has, .ref h_t_old, .ref h_t_beside, .int m_t_stones_47, .ref h_t_slot, .int ((0 : Int32)), .int ((0 : Int32)), .int ((0 : Int32)), .ref h_t_row, .ref h_t_free, .int t_frees, .ref h_t_worth, .ref h_t_fore, .ref h_t_back, .int t_fewest, .ref h_t_got])), (h_t_told, jI D 8 m_t_told__51), (h_t_touches, jZ D 32 m_t_touches__52), (h_t_has, jI D 4 m_t_has__53), (h_t_old, jI D 18 m_t_old__54), (h_t_beside, jI D 9 m_t_beside__55), (h_t_slot, jI D 240 m_t_slot__56)]) rfl ?_
      exact j_vretR C (r := r) (rtf := fun r => none) (wff := fun r => (oX10_takes D h_t h_t_text h_t_told h_t_touches h_t_has h_t_old h_t_beside h_t_slot h_t_row h_t_free h_t_worth h_t_fore h_t_back h_t_got t_length t_at t_frees t_fewest r)) E h rfl rfl dX10_takes_268
    · refine j_aload_n C dX10_takes_223 rfl 0 rfl ?_
      refine j_get C ibX10 (ci := 8) 0 rfl rfl 9 (by decide) bfX10_30 (v := .ref h_t_slot) rfl dX10_takes_224 ?_
      refine j_iload_n C dX10_takes_227 rfl 1 rfl ?_
      refine j_iload_n C dX10_takes_228 rfl 1 rfl ?_
      refine j_aload_n C dX10_takes_229 rfl 0 rfl ?_
      refine j_get C ibX10 (ci := 8) 0 rfl rfl 8 (by decide) bfX10_91 (v := .int m_t_stones_47) rfl dX10_takes_230 ?_
      refine j_icmp_ge C (tgt := 245) dX10_takes_233 (by decide) h (fun c78 h => ?_) (fun c78 h => ?_)
      · refine j_iconst C dX10_takes_245 (v := (0 : Int32)) (by decide) ?_
        refine j_sub (lv' := [(0, .ref h_t), (1, .int x46)]) [0, 1] rfl ?_
        exact L246 x46 ((0 : Int32)) x46 m_t_stones_47 m_t_kept_48 m_t_done_49 m_t_rows_50 m_t_told__51 m_t_touches__52 m_t_has__53 m_t_old__54 m_t_beside__55 m_t_slot__56 h
      · refine j_aload_n C dX10_takes_236 rfl 0 rfl ?_
        refine j_get C ibX10 (ci := 8) 0 rfl rfl 6 (by decide) bfX10_24 (v := .ref h_t_old) rfl dX10_takes_237 ?_
        refine j_iload_n C dX10_takes_240 rfl 1 rfl ?_
        refine jl_inb h (fun b92 h => ?_)
        refine j_iald C 4 rfl b92 dX10_takes_241 ?_
        refine j_goto C dX10_takes_242 (tgt := 246) (by decide) ?_
        refine j_sub (lv' := [(0, .ref h_t), (1, .int x46)]) [0, 1] rfl ?_
        exact L246 x46 (m_t_old__54 x46.toNatClampNeg) x46 m_t_stones_47 m_t_kept_48 m_t_done_49 m_t_rows_50 m_t_told__51 m_t_touches__52 m_t_has__53 m_t_old__54 m_t_beside__55 m_t_slot__56 h
  have L112 : ∀ (x16 : Int32) (m_t_stones_17 : Int32) (m_t_kept_18 : Int32) (m_t_done_19 : Int32) (m_t_rows_20 : Int32) (m_t_told__21 : Nat → Int32) (m_t_touches__22 : Nat → Int32) (m_t_has__23 : Nat → Int32) (m_t_old__24 : Nat → Int32) (m_t_beside__25 : Nat → Int32) (m_t_slot__26 : Nat → Int32), lX10_takes_112 F  F x16 m_t_stones_17 m_t_kept_18 m_t_done_19 m_t_rows_20 m_t_told__21 m_t_touches__22 m_t_has__23 m_t_old__24 m_t_beside__25 m_t_slot__26 = some r → JJ D X 5 0 0 112 [(0, .ref h_t), (1, .int x16)] [] [(h_t, .inr (8, [.int t_length, .ref h_t_text, .int t_at, .ref h_t_told, .ref h_t_touches, .ref h_t_has, .ref h_t_old, .ref h_t_beside, .int m_t_stones_17, .ref h_t_slot, .int m_t_kept_18, .int m_t_done_19, .int m_t_rows_20, .ref h_t_row, .ref h_t_free, .int t_frees, .ref h_t_worth, .ref h_t_fore, .ref h_t_back, .int t_fewest, .ref h_t_got])), (h_t_told, jI D 8 m_t_told__21), (h_t_touches, jZ D 32 m_t_touches__22), (h_t_has, jI D 4 m_t_has__23), (h_t_old, jI D 18 m_t_old__24), (h_t_beside, jI D 9 m_t_beside__25), (h_t_slot, jI D 240 m_t_slot__26)] := by
    intro x16 m_t_stones_17 m_t_kept_18 m_t_done_19 m_t_rows_20 m_t_told__21 m_t_touches__22 m_t_has__23 m_t_old__24 m_t_beside__25 m_t_slot__26 h
    refine jl_ind11 (fun x16 m_t_stones_17 m_t_kept_18 m_t_done_19 m_t_rows_20 m_t_told__21 m_t_touches__22 m_t_has__23 m_t_old__24 m_t_beside__25 m_t_slot__26 => JJ D X 5 0 0 112 [(0, .ref h_t), (1, .int x16)] [] [(h_t, .inr (8, [.int t_length, .ref h_t_text, .int t_at, .ref h_t_told, .ref h_t_touches, .ref h_t_has, .ref h_t_old, .ref h_t_beside, .int m_t_stones_17, .ref h_t_slot, .int m_t_kept_18, .int m_t_done_19, .int m_t_rows_20, .ref h_t_row, .ref h_t_free, .int t_frees, .ref h_t_worth, .ref h_t_fore, .ref h_t_back, .int t_fewest, .ref h_t_got])), (h_t_told, jI D 8 m_t_told__21), (h_t_touches, jZ D 32 m_t_touches__22), (h_t_has, jI D 4 m_t_has__23), (h_t_old, jI D 18 m_t_old__24), (h_t_beside, jI D 9 m_t_beside__25), (h_t_slot, jI D 240 m_t_slot__26)]) ?_ F x16 m_t_stones_17 m_t_kept_18 m_t_done_19 m_t_rows_20 m_t_told__21 m_t_touches__22 m_t_has__23 m_t_old__24 m_t_beside__25 m_t_slot__26 h
    clear h x16 m_t_stones_17 m_t_kept_18 m_t_done_19 m_t_rows_20 m_t_told__21 m_t_touches__22 m_t_has__23 m_t_old__24 m_t_beside__25 m_t_slot__26
    intro k112 i112 x16 m_t_stones_17 m_t_kept_18 m_t_done_19 m_t_rows_20 m_t_told__21 m_t_touches__22 m_t_has__23 m_t_old__24 m_t_beside__25 m_t_slot__26 h
    replace i112 : ∀ (x16 : Int32) (m_t_stones_17 : Int32) (m_t_kept_18 : Int32) (m_t_done_19 : Int32) (m_t_rows_20 : Int32) (m_t_told__21 : Nat → Int32) (m_t_touches__22 : Nat → Int32) (m_t_has__23 : Nat → Int32) (m_t_old__24 : Nat → Int32) (m_t_beside__25 : Nat → Int32) (m_t_slot__26 : Nat → Int32), k112 x16 m_t_stones_17 m_t_kept_18 m_t_done_19 m_t_rows_20 m_t_told__21 m_t_touches__22 m_t_has__23 m_t_old__24 m_t_beside__25 m_t_slot__26 = some r → JJ D X 5 0 0 112 [(0, .ref h_t), (1, .int x16)] [] [(h_t, .inr (8, [.int t_length, .ref h_t_text, .int t_at, .ref h_t_told, .ref h_t_touches, .ref h_t_has, .ref h_t_old, .ref h_t_beside, .int m_t_stones_17, .ref h_t_slot, .int m_t_kept_18, .int m_t_done_19, .int m_t_rows_20, .ref h_t_row, .ref h_t_free, .int t_frees, .ref h_t_worth, .ref h_t_fore, .ref h_t_back, .int t_fewest, .ref h_t_got])), (h_t_told, jI D 8 m_t_told__21), (h_t_touches, jZ D 32 m_t_touches__22), (h_t_has, jI D 4 m_t_has__23), (h_t_old, jI D 18 m_t_old__24), (h_t_beside, jI D 9 m_t_beside__25), (h_t_slot, jI D 240 m_t_slot__26)] := i112
    show JJ D X 5 0 0 112 [(0, .ref h_t), (1, .int x16)] [] [(h_t, .inr (8, [.int t_length, .ref h_t_text, .int t_at, .ref h_t_told, .ref h_t_touches, .ref h_t_has, .ref h_t_old, .ref h_t_beside, .int m_t_stones_17, .ref h_t_slot, .int m_t_kept_18, .int m_t_done_19, .int m_t_rows_20, .ref h_t_row, .ref h_t_free, .int t_frees, .ref h_t_worth, .ref h_t_fore, .ref h_t_back, .int t_fewest, .ref h_t_got])), (h_t_told, jI D 8 m_t_told__21), (h_t_touches, jZ D 32 m_t_touches__22), (h_t_has, jI D 4 m_t_has__23), (h_t_old, jI D 18 m_t_old__24), (h_t_beside, jI D 9 m_t_beside__25), (h_t_slot, jI D 240 m_t_slot__26)]
    unfold bX10_takes_112 at h
    have L129 : ∀ (x59 : Int32) (x60 : Int32) (m_t_stones_61 : Int32) (m_t_kept_62 : Int32) (m_t_done_63 : Int32) (m_t_rows_64 : Int32) (m_t_told__65 : Nat → Int32) (m_t_touches__66 : Nat → Int32) (m_t_has__67 : Nat → Int32) (m_t_old__68 : Nat → Int32) (m_t_beside__69 : Nat → Int32) (m_t_slot__70 : Nat → Int32), lX10_takes_129 F k112 F x59 x60 m_t_stones_61 m_t_kept_62 m_t_done_63 m_t_rows_64 m_t_told__65 m_t_touches__66 m_t_has__67 m_t_old__68 m_t_beside__69 m_t_slot__70 = some r → JJ D X 5 0 0 129 [(0, .ref h_t), (1, .int x59), (2, .int x60)] [] [(h_t, .inr (8, [.int t_length, .ref h_t_text, .int t_at, .ref h_t_told, .ref h_t_touches, .ref h_t_has, .ref h_t_old, .ref h_t_beside, .int m_t_stones_61, .ref h_t_slot, .int m_t_kept_62, .int m_t_done_63, .int m_t_rows_64, .ref h_t_row, .ref h_t_free, .int t_frees, .ref h_t_worth, .ref h_t_fore, .ref h_t_back, .int t_fewest, .ref h_t_got])), (h_t_told, jI D 8 m_t_told__65), (h_t_touches, jZ D 32 m_t_touches__66), (h_t_has, jI D 4 m_t_has__67), (h_t_old, jI D 18 m_t_old__68), (h_t_beside, jI D 9 m_t_beside__69), (h_t_slot, jI D 240 m_t_slot__70)] := by
      intro x59 x60 m_t_stones_61 m_t_kept_62 m_t_done_63 m_t_rows_64 m_t_told__65 m_t_touches__66 m_t_has__67 m_t_old__68 m_t_beside__69 m_t_slot__70 h
      refine jl_ind12 (fun x59 x60 m_t_stones_61 m_t_kept_62 m_t_done_63 m_t_rows_64 m_t_told__65 m_t_touches__66 m_t_has__67 m_t_old__68 m_t_beside__69 m_t_slot__70 => JJ D X 5 0 0 129 [(0, .ref h_t), (1, .int x59), (2, .int x60)] [] [(h_t, .inr (8, [.int t_length, .ref h_t_text, .int t_at, .ref h_t_told, .ref h_t_touches, .ref h_t_has, .ref h_t_old, .ref h_t_beside, .int m_t_stones_61, .ref h_t_slot, .int m_t_kept_62, .int m_t_done_63, .int m_t_rows_64, .ref h_t_row, .ref h_t_free, .int t_frees, .ref h_t_worth, .ref h_t_fore, .ref h_t_back, .int t_fewest, .ref h_t_got])), (h_t_told, jI D 8 m_t_told__65), (h_t_touches, jZ D 32 m_t_touches__66), (h_t_has, jI D 4 m_t_has__67), (h_t_old, jI D 18 m_t_old__68), (h_t_beside, jI D 9 m_t_beside__69), (h_t_slot, jI D 240 m_t_slot__70)]) ?_ F x59 x60 m_t_stones_61 m_t_kept_62 m_t_done_63 m_t_rows_64 m_t_told__65 m_t_touches__66 m_t_has__67 m_t_old__68 m_t_beside__69 m_t_slot__70 h
      clear h x59 x60 m_t_stones_61 m_t_kept_62 m_t_done_63 m_t_rows_64 m_t_told__65 m_t_touches__66 m_t_has__67 m_t_old__68 m_t_beside__69 m_t_slot__70
      intro k129 i129 x59 x60 m_t_stones_61 m_t_kept_62 m_t_done_63 m_t_rows_64 m_t_told__65 m_t_touches__66 m_t_has__67 m_t_old__68 m_t_beside__69 m_t_slot__70 h
      replace i129 : ∀ (x59 : Int32) (x60 : Int32) (m_t_stones_61 : Int32) (m_t_kept_62 : Int32) (m_t_done_63 : Int32) (m_t_rows_64 : Int32) (m_t_told__65 : Nat → Int32) (m_t_touches__66 : Nat → Int32) (m_t_has__67 : Nat → Int32) (m_t_old__68 : Nat → Int32) (m_t_beside__69 : Nat → Int32) (m_t_slot__70 : Nat → Int32), k129 x59 x60 m_t_stones_61 m_t_kept_62 m_t_done_63 m_t_rows_64 m_t_told__65 m_t_touches__66 m_t_has__67 m_t_old__68 m_t_beside__69 m_t_slot__70 = some r → JJ D X 5 0 0 129 [(0, .ref h_t), (1, .int x59), (2, .int x60)] [] [(h_t, .inr (8, [.int t_length, .ref h_t_text, .int t_at, .ref h_t_told, .ref h_t_touches, .ref h_t_has, .ref h_t_old, .ref h_t_beside, .int m_t_stones_61, .ref h_t_slot, .int m_t_kept_62, .int m_t_done_63, .int m_t_rows_64, .ref h_t_row, .ref h_t_free, .int t_frees, .ref h_t_worth, .ref h_t_fore, .ref h_t_back, .int t_fewest, .ref h_t_got])), (h_t_told, jI D 8 m_t_told__65), (h_t_touches, jZ D 32 m_t_touches__66), (h_t_has, jI D 4 m_t_has__67), (h_t_old, jI D 18 m_t_old__68), (h_t_beside, jI D 9 m_t_beside__69), (h_t_slot, jI D 240 m_t_slot__70)] := i129
      show JJ D X 5 0 0 129 [(0, .ref h_t), (1, .int x59), (2, .int x60)] [] [(h_t, .inr (8, [.int t_length, .ref h_t_text, .int t_at, .ref h_t_told, .ref h_t_touches, .ref h_t_has, .ref h_t_old, .ref h_t_beside, .int m_t_stones_61, .ref h_t_slot, .int m_t_kept_62, .int m_t_done_63, .int m_t_rows_64, .ref h_t_row, .ref h_t_free, .int t_frees, .ref h_t_worth, .ref h_t_fore, .ref h_t_back, .int t_fewest, .ref h_t_got])), (h_t_told, jI D 8 m_t_told__65), (h_t_touches, jZ D 32 m_t_touches__66), (h_t_has, jI D 4 m_t_has__67), (h_t_old, jI D 18 m_t_old__68), (h_t_beside, jI D 9 m_t_beside__69), (h_t_slot, jI D 240 m_t_slot__70)]
      unfold bX10_takes_129 at h
      have L201 : ∀ (x103 : Int32) (x104 : Int32) (s105 : Int32) (s106 : Int32) (s107 : Int32) (m_t_stones_108 : Int32) (m_t_kept_109 : Int32) (m_t_done_110 : Int32) (m_t_rows_111 : Int32) (m_t_told__112 : Nat → Int32) (m_t_touches__113 : Nat → Int32) (m_t_has__114 : Nat → Int32) (m_t_old__115 : Nat → Int32) (m_t_beside__116 : Nat → Int32) (m_t_slot__117 : Nat → Int32), fX10_takes_201 F k112 k129 x103 x104 s105 s106 s107 m_t_stones_108 m_t_kept_109 m_t_done_110 m_t_rows_111 m_t_told__112 m_t_touches__113 m_t_has__114 m_t_old__115 m_t_beside__116 m_t_slot__117 = some r → JJ D X 5 0 0 201 [(0, .ref h_t), (1, .int x103), (2, .int x104)] [.int s105, .int s106, .int s107, .ref h_t_beside] [(h_t, .inr (8, [.int t_length, .ref h_t_text, .int t_at, .ref h_t_told, .ref h_t_touches, .ref h_t_has, .ref h_t_old, .ref h_t_beside, .int m_t_stones_108, .ref h_t_slot, .int m_t_kept_109, .int m_t_done_110, .int m_t_rows_111, .ref h_t_row, .ref h_t_free, .int t_frees, .ref h_t_worth, .ref h_t_fore, .ref h_t_back, .int t_fewest, .ref h_t_got])), (h_t_told, jI D 8 m_t_told__112), (h_t_touches, jZ D 32 m_t_touches__113), (h_t_has, jI D 4 m_t_has__114), (h_t_old, jI D 18 m_t_old__115), (h_t_beside, jI D 9 m_t_beside__116), (h_t_slot, jI D 240 m_t_slot__117)] := by
        intro x103 x104 s105 s106 s107 m_t_stones_108 m_t_kept_109 m_t_done_110 m_t_rows_111 m_t_told__112 m_t_touches__113 m_t_has__114 m_t_old__115 m_t_beside__116 m_t_slot__117 h
        unfold fX10_takes_201 at h
        refine j_ior C dX10_takes_201 ?_
        refine jl_inb h (fun b121 h => ?_)
        refine j_iast C 5 rfl b121 dX10_takes_202 (ws' := fun g122 => [(h_t, .inr (8, [.int t_length, .ref h_t_text, .int t_at, .ref h_t_told, .ref h_t_touches, .ref h_t_has, .ref h_t_old, .ref h_t_beside, .int m_t_stones_108, .ref h_t_slot, .int m_t_kept_109, .int m_t_done_110, .int m_t_rows_111, .ref h_t_row, .ref h_t_free, .int t_frees, .ref h_t_worth, .ref h_t_fore, .ref h_t_back, .int t_fewest, .ref h_t_got])), (h_t_told, jI D 8 m_t_told__112), (h_t_touches, jZ D 32 m_t_touches__113), (h_t_has, jI D 4 m_t_has__114), (h_t_old, jI D 18 m_t_old__115), (h_t_beside, jI D 9 g122), (h_t_slot, jI D 240 m_t_slot__117)]) (fun _ => rfl) h (fun g122 h => ?_)
        refine j_iinc C dX10_takes_203 2 rfl (lv' := fun v123 => [(2, .int v123), (0, .ref h_t), (1, .int x103)]) (by decide) (fun _ => rfl) h (fun v123 h => ?_)
        refine j_goto C dX10_takes_206 (tgt := 129) (by decide) ?_
        refine j_sub (lv' := [(0, .ref h_t), (1, .int x103), (2, .int v123)]) [1, 2, 0] rfl ?_
        exact i129 x103 v123 m_t_stones_108 m_t_kept_109 m_t_done_110 m_t_rows_111 m_t_told__112 m_t_touches__113 m_t_has__114 m_t_old__115 g122 m_t_slot__117 h
      refine j_iload_n C dX10_takes_129 rfl 2 rfl ?_
      refine j_aload_n C dX10_takes_130 rfl 0 rfl ?_
      refine j_get C ibX10 (ci := 8) 0 rfl rfl 8 (by decide) bfX10_91 (v := .int m_t_stones_61) rfl dX10_takes_131 ?_
      refine j_icmp_ge C (tgt := 209) dX10_takes_134 (by decide) h (fun c93 h => ?_) (fun c93 h => ?_)
      · refine j_iinc C dX10_takes_209 1 rfl (lv' := fun v94 => [(1, .int v94), (0, .ref h_t), (2, .int x60)]) (by decide) (fun _ => rfl) h (fun v94 h => ?_)
        refine j_goto C dX10_takes_212 (tgt := 112) (by decide) ?_
        refine j_sub (lv' := [(0, .ref h_t), (1, .int v94)]) [1, 0] rfl ?_
        exact i112 v94 m_t_stones_61 m_t_kept_62 m_t_done_63 m_t_rows_64 m_t_told__65 m_t_touches__66 m_t_has__67 m_t_old__68 m_t_beside__69 m_t_slot__70 h
      · refine j_iload_n C dX10_takes_137 rfl 1 rfl ?_
        refine j_aload_n C dX10_takes_138 rfl 0 rfl ?_
        refine j_get C ibX10 (ci := 8) 0 rfl rfl 3 (by decide) bfX10_13 (v := .ref h_t_told) rfl dX10_takes_139 ?_
        refine j_iconst C dX10_takes_142 (v := (1 : Int32)) (by decide) ?_
        refine j_iald C 1 rfl (by unfold vp_in; decide) dX10_takes_143 ?_
        refine jl_grd h (fun b95 h => ?_)
        refine j_idiv C dX10_takes_144 b95 ?_
        refine j_iload_n C dX10_takes_145 rfl 2 rfl ?_
        refine j_aload_n C dX10_takes_146 rfl 0 rfl ?_
        refine j_get C ibX10 (ci := 8) 0 rfl rfl 3 (by decide) bfX10_13 (v := .ref h_t_told) rfl dX10_takes_147 ?_
        refine j_iconst C dX10_takes_150 (v := (1 : Int32)) (by decide) ?_
        refine j_iald C 1 rfl (by unfold vp_in; decide) dX10_takes_151 ?_
        refine jl_grd h (fun b96 h => ?_)
        refine j_idiv C dX10_takes_152 b96 ?_
        refine j_isub C dX10_takes_153 ?_
        refine j_istore_n C dX10_takes_154 rfl (lv' := fun v97 => [(3, .int v97), (0, .ref h_t), (1, .int x59), (2, .int x60)]) (by decide) (fun _ => rfl) h (fun v97 h => ?_)
        refine j_iload_n C dX10_takes_155 rfl 2 rfl ?_
        refine j_aload_n C dX10_takes_156 rfl 1 rfl ?_
        refine j_get C ibX10 (ci := 8) 0 rfl rfl 3 (by decide) bfX10_13 (v := .ref h_t_told) rfl dX10_takes_157 ?_
        refine j_iconst C dX10_takes_160 (v := (1 : Int32)) (by decide) ?_
        refine j_iald C 1 rfl (by unfold vp_in; decide) dX10_takes_161 ?_
        refine jl_grd h (fun b98 h => ?_)
        refine j_irem C dX10_takes_162 b98 ?_
        refine j_iload_n C dX10_takes_163 rfl 3 rfl ?_
        refine j_aload_n C dX10_takes_164 rfl 1 rfl ?_
        refine j_get C ibX10 (ci := 8) 0 rfl rfl 3 (by decide) bfX10_13 (v := .ref h_t_told) rfl dX10_takes_165 ?_
        refine j_iconst C dX10_takes_168 (v := (1 : Int32)) (by decide) ?_
        refine j_iald C 1 rfl (by unfold vp_in; decide) dX10_takes_169 ?_
        refine jl_grd h (fun b99 h => ?_)
        refine j_irem C dX10_takes_170 b99 ?_
        refine j_isub C dX10_takes_171 ?_
        refine j_istore C dX10_takes_172 (lv' := fun v100 => [(4, .int v100), (3, .int v97), (0, .ref h_t), (1, .int x59), (2, .int x60)]) (by decide) (fun _ => rfl) h (fun v100 h => ?_)
        refine j_aload_n C dX10_takes_174 rfl 2 rfl ?_
        refine j_get C ibX10 (ci := 8) 0 rfl rfl 7 (by decide) bfX10_27 (v := .ref h_t_beside) rfl dX10_takes_175 ?_
        refine j_iload_n C dX10_takes_178 rfl 3 rfl ?_
        refine j_dup2_11 C dX10_takes_179 rfl rfl ?_
        refine jl_inb h (fun b101 h => ?_)
        refine j_iald C 5 rfl b101 dX10_takes_180 ?_
        refine j_iload_n C dX10_takes_181 rfl 1 rfl ?_
        refine j_iload_n C dX10_takes_182 rfl 1 rfl ?_
        refine j_imul C dX10_takes_183 ?_
        refine j_iload C dX10_takes_184 0 rfl ?_
        refine j_iload C dX10_takes_186 0 rfl ?_
        refine j_imul C dX10_takes_188 ?_
        refine j_iadd C dX10_takes_189 ?_
        refine j_iconst C dX10_takes_190 (v := (1 : Int32)) (by decide) ?_
        refine j_icmp_ne C (tgt := 200) dX10_takes_191 (by decide) h (fun c102 h => ?_) (fun c102 h => ?_)
        · refine j_iconst C dX10_takes_194 (v := (1 : Int32)) (by decide) ?_
          refine j_iload_n C dX10_takes_195 rfl 4 rfl ?_
          refine j_ishl C dX10_takes_196 ?_
          refine j_goto C dX10_takes_197 (tgt := 201) (by decide) ?_
          refine j_sub (lv' := [(0, .ref h_t), (1, .int x59), (2, .int x60)]) [2, 3, 4] rfl ?_
          exact L201 x59 x60 (((1 : Int32)) <<< (x60 &&& 31)) (m_t_beside__69 x59.toNatClampNeg) x59 m_t_stones_61 m_t_kept_62 m_t_done_63 m_t_rows_64 m_t_told__65 m_t_touches__66 m_t_has__67 m_t_old__68 m_t_beside__69 m_t_slot__70 h
        · refine j_iconst C dX10_takes_200 (v := (0 : Int32)) (by decide) ?_
          refine j_sub (lv' := [(0, .ref h_t), (1, .int x59), (2, .int x60)]) [2, 3, 4] rfl ?_
          exact L201 x59 x60 ((0 : Int32)) (m_t_beside__69 x59.toNatClampNeg) x59 m_t_stones_61 m_t_kept_62 m_t_done_63 m_t_rows_64 m_t_told__65 m_t_touches__66 m_t_has__67 m_t_old__68 m_t_beside__69 m_t_slot__70 h
    refine j_iload_n C dX10_takes_112 rfl 1 rfl ?_
    refine j_aload_n C dX10_takes_113 rfl 0 rfl ?_
    refine j_get C ibX10 (ci := 8) 0 rfl rfl 8 (by decide) bfX10_91 (v := .int m_t_stones_17) rfl dX10_takes_114 ?_
    refine j_icmp_ge C (tgt := 215) dX10_takes_117 (by decide) h (fun c45 h => ?_) (fun c45 h => ?_)
    · refine j_iconst C dX10_takes_215 (v := (0 : Int32)) (by decide) ?_
      refine j_istore_nC C dX10_takes_216 rfl (lv' := [(1, .int ((0 : Int32))), (0, .ref h_t)]) (by decide) rfl ?_
      refine j_sub (lv' := [(0, .ref h_t), (1, .int ((0 : Int32)))]) [1, 0] rfl ?_
      exact L217 ((0 : Int32)) m_t_stones_17 m_t_kept_18 m_t_done_19 m_t_rows_20 m_t_told__21 m_t_touches__22 m_t_has__23 m_t_old__24 m_t_beside__25 m_t_slot__26 h
    · refine j_aload_n C dX10_takes_120 rfl 0 rfl ?_
      refine j_get C ibX10 (ci := 8) 0 rfl rfl 7 (by decide) bfX10_27 (v := .ref h_t_beside) rfl dX10_takes_121 ?_
      refine j_iload_n C dX10_takes_124 rfl 1 rfl ?_
      refine j_iconst C dX10_takes_125 (v := (0 : Int32)) (by decide) ?_
      refine jl_inb h (fun b57 h => ?_)
      refine j_iast C 5 rfl b57 dX10_takes_126 (ws' := fun g58 => [(h_t, .inr (8, [.int t_length, .ref h_t_text, .int t_at, .ref h_t_told, .ref h_t_touches, .ref h_t_has, .ref h_t_old, .ref h_t_beside, .int m_t_stones_17, .ref h_t_slot, .int m_t_kept_18, .int m_t_done_19, .int m_t_rows_20, .ref h_t_row, .ref h_t_free, .int t_frees, .ref h_t_worth, .ref h_t_fore, .ref h_t_back, .int t_fewest, .ref h_t_got])), (h_t_told, jI D 8 m_t_told__21), (h_t_touches, jZ D 32 m_t_touches__22), (h_t_has, jI D 4 m_t_has__23), (h_t_old, jI D 18 m_t_old__24), (h_t_beside, jI D 9 g58), (h_t_slot, jI D 240 m_t_slot__26)]) (fun _ => rfl) h (fun g58 h => ?_)
      refine j_iconst C dX10_takes_127 (v := (0 : Int32)) (by decide) ?_
      refine j_istore_nC C dX10_takes_128 rfl (lv' := [(2, .int ((0 : Int32))), (0, .ref h_t), (1, .int x16)]) (by decide) rfl ?_
      refine j_sub (lv' := [(0, .ref h_t), (1, .int x16), (2, .int ((0 : Int32)))]) [1, 2, 0] rfl ?_
      exact L129 x16 ((0 : Int32)) m_t_stones_17 m_t_kept_18 m_t_done_19 m_t_rows_20 m_t_told__21 m_t_touches__22 m_t_has__23 m_t_old__24 g58 m_t_slot__26 h
  have L2 : ∀ (x1 : Int32) (m_t_stones_2 : Int32) (m_t_kept_3 : Int32) (m_t_done_4 : Int32) (m_t_rows_5 : Int32) (m_t_told__6 : Nat → Int32) (m_t_touches__7 : Nat → Int32) (m_t_has__8 : Nat → Int32) (m_t_old__9 : Nat → Int32) (m_t_beside__10 : Nat → Int32) (m_t_slot__11 : Nat → Int32), lX10_takes_2 F  F x1 m_t_stones_2 m_t_kept_3 m_t_done_4 m_t_rows_5 m_t_told__6 m_t_touches__7 m_t_has__8 m_t_old__9 m_t_beside__10 m_t_slot__11 = some r → JJ D X 5 0 0 2 [(0, .ref h_t), (1, .int x1)] [] [(h_t, .inr (8, [.int t_length, .ref h_t_text, .int t_at, .ref h_t_told, .ref h_t_touches, .ref h_t_has, .ref h_t_old, .ref h_t_beside, .int m_t_stones_2, .ref h_t_slot, .int m_t_kept_3, .int m_t_done_4, .int m_t_rows_5, .ref h_t_row, .ref h_t_free, .int t_frees, .ref h_t_worth, .ref h_t_fore, .ref h_t_back, .int t_fewest, .ref h_t_got])), (h_t_told, jI D 8 m_t_told__6), (h_t_touches, jZ D 32 m_t_touches__7), (h_t_has, jI D 4 m_t_has__8), (h_t_old, jI D 18 m_t_old__9), (h_t_beside, jI D 9 m_t_beside__10), (h_t_slot, jI D 240 m_t_slot__11)] := by
    intro x1 m_t_stones_2 m_t_kept_3 m_t_done_4 m_t_rows_5 m_t_told__6 m_t_touches__7 m_t_has__8 m_t_old__9 m_t_beside__10 m_t_slot__11 h
    refine jl_ind11 (fun x1 m_t_stones_2 m_t_kept_3 m_t_done_4 m_t_rows_5 m_t_told__6 m_t_touches__7 m_t_has__8 m_t_old__9 m_t_beside__10 m_t_slot__11 => JJ D X 5 0 0 2 [(0, .ref h_t), (1, .int x1)] [] [(h_t, .inr (8, [.int t_length, .ref h_t_text, .int t_at, .ref h_t_told, .ref h_t_touches, .ref h_t_has, .ref h_t_old, .ref h_t_beside, .int m_t_stones_2, .ref h_t_slot, .int m_t_kept_3, .int m_t_done_4, .int m_t_rows_5, .ref h_t_row, .ref h_t_free, .int t_frees, .ref h_t_worth, .ref h_t_fore, .ref h_t_back, .int t_fewest, .ref h_t_got])), (h_t_told, jI D 8 m_t_told__6), (h_t_touches, jZ D 32 m_t_touches__7), (h_t_has, jI D 4 m_t_has__8), (h_t_old, jI D 18 m_t_old__9), (h_t_beside, jI D 9 m_t_beside__10), (h_t_slot, jI D 240 m_t_slot__11)]) ?_ F x1 m_t_stones_2 m_t_kept_3 m_t_done_4 m_t_rows_5 m_t_told__6 m_t_touches__7 m_t_has__8 m_t_old__9 m_t_beside__10 m_t_slot__11 h
    clear h x1 m_t_stones_2 m_t_kept_3 m_t_done_4 m_t_rows_5 m_t_told__6 m_t_touches__7 m_t_has__8 m_t_old__9 m_t_beside__10 m_t_slot__11
    intro k2 i2 x1 m_t_stones_2 m_t_kept_3 m_t_done_4 m_t_rows_5 m_t_told__6 m_t_touches__7 m_t_has__8 m_t_old__9 m_t_beside__10 m_t_slot__11 h
    replace i2 : ∀ (x1 : Int32) (m_t_stones_2 : Int32) (m_t_kept_3 : Int32) (m_t_done_4 : Int32) (m_t_rows_5 : Int32) (m_t_told__6 : Nat → Int32) (m_t_touches__7 : Nat → Int32) (m_t_has__8 : Nat → Int32) (m_t_old__9 : Nat → Int32) (m_t_beside__10 : Nat → Int32) (m_t_slot__11 : Nat → Int32), k2 x1 m_t_stones_2 m_t_kept_3 m_t_done_4 m_t_rows_5 m_t_told__6 m_t_touches__7 m_t_has__8 m_t_old__9 m_t_beside__10 m_t_slot__11 = some r → JJ D X 5 0 0 2 [(0, .ref h_t), (1, .int x1)] [] [(h_t, .inr (8, [.int t_length, .ref h_t_text, .int t_at, .ref h_t_told, .ref h_t_touches, .ref h_t_has, .ref h_t_old, .ref h_t_beside, .int m_t_stones_2, .ref h_t_slot, .int m_t_kept_3, .int m_t_done_4, .int m_t_rows_5, .ref h_t_row, .ref h_t_free, .int t_frees, .ref h_t_worth, .ref h_t_fore, .ref h_t_back, .int t_fewest, .ref h_t_got])), (h_t_told, jI D 8 m_t_told__6), (h_t_touches, jZ D 32 m_t_touches__7), (h_t_has, jI D 4 m_t_has__8), (h_t_old, jI D 18 m_t_old__9), (h_t_beside, jI D 9 m_t_beside__10), (h_t_slot, jI D 240 m_t_slot__11)] := i2
    show JJ D X 5 0 0 2 [(0, .ref h_t), (1, .int x1)] [] [(h_t, .inr (8, [.int t_length, .ref h_t_text, .int t_at, .ref h_t_told, .ref h_t_touches, .ref h_t_has, .ref h_t_old, .ref h_t_beside, .int m_t_stones_2, .ref h_t_slot, .int m_t_kept_3, .int m_t_done_4, .int m_t_rows_5, .ref h_t_row, .ref h_t_free, .int t_frees, .ref h_t_worth, .ref h_t_fore, .ref h_t_back, .int t_fewest, .ref h_t_got])), (h_t_told, jI D 8 m_t_told__6), (h_t_touches, jZ D 32 m_t_touches__7), (h_t_has, jI D 4 m_t_has__8), (h_t_old, jI D 18 m_t_old__9), (h_t_beside, jI D 9 m_t_beside__10), (h_t_slot, jI D 240 m_t_slot__11)]
    unfold bX10_takes_2 at h
    have L44 : ∀ (x31 : Int32) (m_t_stones_32 : Int32) (m_t_kept_33 : Int32) (m_t_done_34 : Int32) (m_t_rows_35 : Int32) (m_t_told__36 : Nat → Int32) (m_t_touches__37 : Nat → Int32) (m_t_has__38 : Nat → Int32) (m_t_old__39 : Nat → Int32) (m_t_beside__40 : Nat → Int32) (m_t_slot__41 : Nat → Int32), fX10_takes_44 F k2 x31 m_t_stones_32 m_t_kept_33 m_t_done_34 m_t_rows_35 m_t_told__36 m_t_touches__37 m_t_has__38 m_t_old__39 m_t_beside__40 m_t_slot__41 = some r → JJ D X 5 0 0 44 [(0, .ref h_t), (1, .int x31)] [] [(h_t, .inr (8, [.int t_length, .ref h_t_text, .int t_at, .ref h_t_told, .ref h_t_touches, .ref h_t_has, .ref h_t_old, .ref h_t_beside, .int m_t_stones_32, .ref h_t_slot, .int m_t_kept_33, .int m_t_done_34, .int m_t_rows_35, .ref h_t_row, .ref h_t_free, .int t_frees, .ref h_t_worth, .ref h_t_fore, .ref h_t_back, .int t_fewest, .ref h_t_got])), (h_t_told, jI D 8 m_t_told__36), (h_t_touches, jZ D 32 m_t_touches__37), (h_t_has, jI D 4 m_t_has__38), (h_t_old, jI D 18 m_t_old__39), (h_t_beside, jI D 9 m_t_beside__40), (h_t_slot, jI D 240 m_t_slot__41)] := by
      intro x31 m_t_stones_32 m_t_kept_33 m_t_done_34 m_t_rows_35 m_t_told__36 m_t_touches__37 m_t_has__38 m_t_old__39 m_t_beside__40 m_t_slot__41 h
      unfold fX10_takes_44 at h
      refine j_iload_n C dX10_takes_44 rfl 1 rfl ?_
      refine j_iconst C dX10_takes_45 (v := (4 : Int32)) (by decide) ?_
      refine j_icmp_ge C (tgt := 63) dX10_takes_46 (by decide) h (fun c71 h => ?_) (fun c71 h => ?_)
      · refine j_iinc C dX10_takes_63 1 rfl (lv' := fun v72 => [(1, .int v72), (0, .ref h_t)]) (by decide) (fun _ => rfl) h (fun v72 h => ?_)
        refine j_goto C dX10_takes_66 (tgt := 2) (by decide) ?_
        refine j_sub (lv' := [(0, .ref h_t), (1, .int v72)]) [1, 0] rfl ?_
        exact i2 v72 m_t_stones_32 m_t_kept_33 m_t_done_34 m_t_rows_35 m_t_told__36 m_t_touches__37 m_t_has__38 m_t_old__39 m_t_beside__40 m_t_slot__41 h
      · refine j_aload_n C dX10_takes_49 rfl 0 rfl ?_
        refine j_get C ibX10 (ci := 8) 0 rfl rfl 3 (by decide) bfX10_13 (v := .ref h_t_told) rfl dX10_takes_50 ?_
        refine j_iload_n C dX10_takes_53 rfl 1 rfl ?_
        refine j_aload_n C dX10_takes_54 rfl 0 rfl ?_
        refine j_get C ibX10 (ci := 8) 0 rfl rfl 3 (by decide) bfX10_13 (v := .ref h_t_told) rfl dX10_takes_55 ?_
        refine j_iconst C dX10_takes_58 (v := (4 : Int32)) (by decide) ?_
        refine j_iload_n C dX10_takes_59 rfl 1 rfl ?_
        refine j_iadd C dX10_takes_60 ?_
        refine jl_inb h (fun b73 h => ?_)
        refine j_iald C 1 rfl b73 dX10_takes_61 ?_
        refine jl_inb h (fun b74 h => ?_)
        refine j_iast C 1 rfl b74 dX10_takes_62 (ws' := fun g75 => [(h_t, .inr (8, [.int t_length, .ref h_t_text, .int t_at, .ref h_t_told, .ref h_t_touches, .ref h_t_has, .ref h_t_old, .ref h_t_beside, .int m_t_stones_32, .ref h_t_slot, .int m_t_kept_33, .int m_t_done_34, .int m_t_rows_35, .ref h_t_row, .ref h_t_free, .int t_frees, .ref h_t_worth, .ref h_t_fore, .ref h_t_back, .int t_fewest, .ref h_t_got])), (h_t_told, jI D 8 g75), (h_t_touches, jZ D 32 m_t_touches__37), (h_t_has, jI D 4 m_t_has__38), (h_t_old, jI D 18 m_t_old__39), (h_t_beside, jI D 9 m_t_beside__40), (h_t_slot, jI D 240 m_t_slot__41)]) (fun _ => rfl) h (fun g75 h => ?_)
        refine j_iinc C dX10_takes_63 1 rfl (lv' := fun v76 => [(1, .int v76), (0, .ref h_t)]) (by decide) (fun _ => rfl) h (fun v76 h => ?_)
        refine j_goto C dX10_takes_66 (tgt := 2) (by decide) ?_
        refine j_sub (lv' := [(0, .ref h_t), (1, .int v76)]) [1, 0] rfl ?_
        exact i2 v76 m_t_stones_32 m_t_kept_33 m_t_done_34 m_t_rows_35 g75 m_t_touches__37 m_t_has__38 m_t_old__39 m_t_beside__40 m_t_slot__41 h
    refine j_iload_n C dX10_takes_2 rfl 1 rfl ?_
    refine j_bipush C dX10_takes_3 (v := (16 : Int32)) (by decide) ?_
    refine j_icmp_ge C (tgt := 69) dX10_takes_5 (by decide) h (fun c12 h => ?_) (fun c12 h => ?_)
    · refine j_aload_n C dX10_takes_69 rfl 0 rfl ?_
      refine j_get C ibX10 (ci := 8) 0 rfl rfl 5 (by decide) bfX10_21 (v := .ref h_t_has) rfl dX10_takes_70 ?_
      refine j_iconst C dX10_takes_73 (v := (0 : Int32)) (by decide) ?_
      refine j_aload_n C dX10_takes_74 rfl 0 rfl ?_
      refine j_get C ibX10 (ci := 8) 0 rfl rfl 5 (by decide) bfX10_21 (v := .ref h_t_has) rfl dX10_takes_75 ?_
      refine j_iconst C dX10_takes_78 (v := (2 : Int32)) (by decide) ?_
      refine j_iald C 3 rfl (by unfold vp_in; decide) dX10_takes_79 ?_
      refine j_iast C 3 rfl (by unfold vp_in; decide) dX10_takes_80 (ws' := fun g13 => [(h_t, .inr (8, [.int t_length, .ref h_t_text, .int t_at, .ref h_t_told, .ref h_t_touches, .ref h_t_has, .ref h_t_old, .ref h_t_beside, .int m_t_stones_2, .ref h_t_slot, .int m_t_kept_3, .int m_t_done_4, .int m_t_rows_5, .ref h_t_row, .ref h_t_free, .int t_frees, .ref h_t_worth, .ref h_t_fore, .ref h_t_back, .int t_fewest, .ref h_t_got])), (h_t_told, jI D 8 m_t_told__6), (h_t_touches, jZ D 32 m_t_touches__7), (h_t_has, jI D 4 g13), (h_t_old, jI D 18 m_t_old__9), (h_t_beside, jI D 9 m_t_beside__10), (h_t_slot, jI D 240 m_t_slot__11)]) (fun _ => rfl) h (fun g13 h => ?_)
      refine j_aload_n C dX10_takes_81 rfl 0 rfl ?_
      refine j_get C ibX10 (ci := 8) 0 rfl rfl 5 (by decide) bfX10_21 (v := .ref h_t_has) rfl dX10_takes_82 ?_
      refine j_iconst C dX10_takes_85 (v := (1 : Int32)) (by decide) ?_
      refine j_aload_n C dX10_takes_86 rfl 0 rfl ?_
      refine j_get C ibX10 (ci := 8) 0 rfl rfl 5 (by decide) bfX10_21 (v := .ref h_t_has) rfl dX10_takes_87 ?_
      refine j_iconst C dX10_takes_90 (v := (3 : Int32)) (by decide) ?_
      refine j_iald C 3 rfl (by unfold vp_in; decide) dX10_takes_91 ?_
      refine j_iast C 3 rfl (by unfold vp_in; decide) dX10_takes_92 (ws' := fun g14 => [(h_t, .inr (8, [.int t_length, .ref h_t_text, .int t_at, .ref h_t_told, .ref h_t_touches, .ref h_t_has, .ref h_t_old, .ref h_t_beside, .int m_t_stones_2, .ref h_t_slot, .int m_t_kept_3, .int m_t_done_4, .int m_t_rows_5, .ref h_t_row, .ref h_t_free, .int t_frees, .ref h_t_worth, .ref h_t_fore, .ref h_t_back, .int t_fewest, .ref h_t_got])), (h_t_told, jI D 8 m_t_told__6), (h_t_touches, jZ D 32 m_t_touches__7), (h_t_has, jI D 4 g14), (h_t_old, jI D 18 m_t_old__9), (h_t_beside, jI D 9 m_t_beside__10), (h_t_slot, jI D 240 m_t_slot__11)]) (fun _ => rfl) h (fun g14 h => ?_)
      refine j_aload_n C dX10_takes_93 rfl 0 rfl ?_
      refine j_aload_n C dX10_takes_94 rfl 0 rfl ?_
      refine j_get C ibX10 (ci := 8) 0 rfl rfl 3 (by decide) bfX10_13 (v := .ref h_t_told) rfl dX10_takes_95 ?_
      refine j_iconst C dX10_takes_98 (v := (0 : Int32)) (by decide) ?_
      refine j_iald C 1 rfl (by unfold vp_in; decide) dX10_takes_99 ?_
      refine j_aload_n C dX10_takes_100 rfl 0 rfl ?_
      refine j_get C ibX10 (ci := 8) 0 rfl rfl 3 (by decide) bfX10_13 (v := .ref h_t_told) rfl dX10_takes_101 ?_
      refine j_iconst C dX10_takes_104 (v := (1 : Int32)) (by decide) ?_
      refine j_iald C 1 rfl (by unfold vp_in; decide) dX10_takes_105 ?_
      refine j_imul C dX10_takes_106 ?_
      refine j_nmi h (fun w15 h => ?_)
      refine j_put C ibX10 tyX10 tyX10_ok nmX10 (ci := 8) 0 rfl rfl 8 (by decide) bfX10_91 rfl rfl rfl (Nat.le_of_ble_eq_true rfl) dX10_takes_107 (ws' := [(h_t, .inr (8, [.int t_length, .ref h_t_text, .int t_at, .ref h_t_told, .ref h_t_touches, .ref h_t_has, .ref h_t_old, .ref h_t_beside, .int w15, .ref h_t_slot, .int m_t_kept_3, .int m_t_done_4, .int m_t_rows_5, .ref h_t_row, .ref h_t_free, .int t_frees, .ref h_t_worth, .ref h_t_fore, .ref h_t_back, .int t_fewest, .ref h_t_got])), (h_t_told, jI D 8 m_t_told__6), (h_t_touches, jZ D 32 m_t_touches__7), (h_t_has, jI D 4 g14), (h_t_old, jI D 18 m_t_old__9), (h_t_beside, jI D 9 m_t_beside__10), (h_t_slot, jI D 240 m_t_slot__11)]) rfl ?_
      refine j_iconst C dX10_takes_110 (v := (0 : Int32)) (by decide) ?_
      refine j_istore_nC C dX10_takes_111 rfl (lv' := [(1, .int ((0 : Int32))), (0, .ref h_t)]) (by decide) rfl ?_
      refine j_sub (lv' := [(0, .ref h_t), (1, .int ((0 : Int32)))]) [1, 0] rfl ?_
      exact L112 ((0 : Int32)) w15 m_t_kept_3 m_t_done_4 m_t_rows_5 m_t_told__6 m_t_touches__7 g14 m_t_old__9 m_t_beside__10 m_t_slot__11 h
    · refine j_aload_n C dX10_takes_8 rfl 0 rfl ?_
      refine j_get C ibX10 (ci := 8) 0 rfl rfl 4 (by decide) bfX10_17 (v := .ref h_t_touches) rfl dX10_takes_9 ?_
      refine j_iload_n C dX10_takes_12 rfl 1 rfl ?_
      refine j_aload_n C dX10_takes_13 rfl 0 rfl ?_
      refine j_get C ibX10 (ci := 8) 0 rfl rfl 4 (by decide) bfX10_17 (v := .ref h_t_touches) rfl dX10_takes_14 ?_
      refine j_bipush C dX10_takes_17 (v := (16 : Int32)) (by decide) ?_
      refine j_iload_n C dX10_takes_19 rfl 1 rfl ?_
      refine j_iadd C dX10_takes_20 ?_
      refine jl_inb h (fun b27 h => ?_)
      refine j_zald C 2 rfl b27 dX10_takes_21 ?_
      refine jl_inb h (fun b28 h => ?_)
      refine j_zast C 2 rfl b28 dX10_takes_22 (ws' := fun g29 => [(h_t, .inr (8, [.int t_length, .ref h_t_text, .int t_at, .ref h_t_told, .ref h_t_touches, .ref h_t_has, .ref h_t_old, .ref h_t_beside, .int m_t_stones_2, .ref h_t_slot, .int m_t_kept_3, .int m_t_done_4, .int m_t_rows_5, .ref h_t_row, .ref h_t_free, .int t_frees, .ref h_t_worth, .ref h_t_fore, .ref h_t_back, .int t_fewest, .ref h_t_got])), (h_t_told, jI D 8 m_t_told__6), (h_t_touches, jZ D 32 g29), (h_t_has, jI D 4 m_t_has__8), (h_t_old, jI D 18 m_t_old__9), (h_t_beside, jI D 9 m_t_beside__10), (h_t_slot, jI D 240 m_t_slot__11)]) (fun _ => rfl) h (fun g29 h => ?_)
      refine j_iload_n C dX10_takes_23 rfl 1 rfl ?_
      refine j_bipush C dX10_takes_24 (v := (9 : Int32)) (by decide) ?_
      refine j_icmp_ge C (tgt := 44) dX10_takes_26 (by decide) h (fun c30 h => ?_) (fun c30 h => ?_)
      · refine j_sub (lv' := [(0, .ref h_t), (1, .int x1)]) [0, 1] rfl ?_
        exact L44 x1 m_t_stones_2 m_t_kept_3 m_t_done_4 m_t_rows_5 m_t_told__6 g29 m_t_has__8 m_t_old__9 m_t_beside__10 m_t_slot__11 h
      · refine j_aload_n C dX10_takes_29 rfl 0 rfl ?_
        refine j_get C ibX10 (ci := 8) 0 rfl rfl 6 (by decide) bfX10_24 (v := .ref h_t_old) rfl dX10_takes_30 ?_
        refine j_iload_n C dX10_takes_33 rfl 1 rfl ?_
        refine j_aload_n C dX10_takes_34 rfl 0 rfl ?_
        refine j_get C ibX10 (ci := 8) 0 rfl rfl 6 (by decide) bfX10_24 (v := .ref h_t_old) rfl dX10_takes_35 ?_
        refine j_bipush C dX10_takes_38 (v := (9 : Int32)) (by decide) ?_
        refine j_iload_n C dX10_takes_40 rfl 1 rfl ?_
        refine j_iadd C dX10_takes_41 ?_
        refine jl_inb h (fun b42 h => ?_)
        refine j_iald C 4 rfl b42 dX10_takes_42 ?_
        refine jl_inb h (fun b43 h => ?_)
        refine j_iast C 4 rfl b43 dX10_takes_43 (ws' := fun g44 => [(h_t, .inr (8, [.int t_length, .ref h_t_text, .int t_at, .ref h_t_told, .ref h_t_touches, .ref h_t_has, .ref h_t_old, .ref h_t_beside, .int m_t_stones_2, .ref h_t_slot, .int m_t_kept_3, .int m_t_done_4, .int m_t_rows_5, .ref h_t_row, .ref h_t_free, .int t_frees, .ref h_t_worth, .ref h_t_fore, .ref h_t_back, .int t_fewest, .ref h_t_got])), (h_t_told, jI D 8 m_t_told__6), (h_t_touches, jZ D 32 g29), (h_t_has, jI D 4 m_t_has__8), (h_t_old, jI D 18 g44), (h_t_beside, jI D 9 m_t_beside__10), (h_t_slot, jI D 240 m_t_slot__11)]) (fun _ => rfl) h (fun g44 h => ?_)
        refine j_sub (lv' := [(0, .ref h_t), (1, .int x1)]) [0, 1] rfl ?_
        exact L44 x1 m_t_stones_2 m_t_kept_3 m_t_done_4 m_t_rows_5 m_t_told__6 g29 m_t_has__8 g44 m_t_beside__10 m_t_slot__11 h
  refine j_iconst C dX10_takes_0 (v := (0 : Int32)) (by decide) ?_
  refine j_istore_nC C dX10_takes_1 rfl (lv' := [(1, .int ((0 : Int32))), (0, .ref h_t)]) (by decide) rfl ?_
  refine j_sub (lv' := [(0, .ref h_t), (1, .int ((0 : Int32)))]) [1, 0] rfl ?_
  exact L2 ((0 : Int32)) t_stones t_kept t_done t_rows t_told_ t_touches_ t_has_ t_old_ t_beside_ t_slot_ h
theorem dX10_init_0 : decode cX10_init 0 = .ok (.aload_n 0, 1) := by decide +kernel
theorem dX10_init_1 : decode cX10_init 1 = .ok (.invokespecial 1, 3) := by decide +kernel
theorem dX10_init_4 : decode cX10_init 4 = .ok (.aload_n 0, 1) := by decide +kernel
theorem dX10_init_5 : decode cX10_init 5 = .ok (.sipush 200, 3) := by decide +kernel
theorem dX10_init_8 : decode cX10_init 8 = .ok (.newarray .byte, 2) := by decide +kernel
theorem dX10_init_10 : decode cX10_init 10 = .ok (.putfield 7, 3) := by decide +kernel
theorem dX10_init_13 : decode cX10_init 13 = .ok (.aload_n 0, 1) := by decide +kernel
theorem dX10_init_14 : decode cX10_init 14 = .ok (.bipush 8, 2) := by decide +kernel
theorem dX10_init_16 : decode cX10_init 16 = .ok (.newarray .int, 2) := by decide +kernel
theorem dX10_init_18 : decode cX10_init 18 = .ok (.putfield 13, 3) := by decide +kernel
theorem dX10_init_21 : decode cX10_init 21 = .ok (.aload_n 0, 1) := by decide +kernel
theorem dX10_init_22 : decode cX10_init 22 = .ok (.bipush 32, 2) := by decide +kernel
theorem dX10_init_24 : decode cX10_init 24 = .ok (.newarray .boolean, 2) := by decide +kernel
theorem dX10_init_26 : decode cX10_init 26 = .ok (.putfield 17, 3) := by decide +kernel
theorem dX10_init_29 : decode cX10_init 29 = .ok (.aload_n 0, 1) := by decide +kernel
theorem dX10_init_30 : decode cX10_init 30 = .ok (.iconst 4, 1) := by decide +kernel
theorem dX10_init_31 : decode cX10_init 31 = .ok (.newarray .int, 2) := by decide +kernel
theorem dX10_init_33 : decode cX10_init 33 = .ok (.putfield 21, 3) := by decide +kernel
theorem dX10_init_36 : decode cX10_init 36 = .ok (.aload_n 0, 1) := by decide +kernel
theorem dX10_init_37 : decode cX10_init 37 = .ok (.bipush 18, 2) := by decide +kernel
theorem dX10_init_39 : decode cX10_init 39 = .ok (.newarray .int, 2) := by decide +kernel
theorem dX10_init_41 : decode cX10_init 41 = .ok (.putfield 24, 3) := by decide +kernel
theorem dX10_init_44 : decode cX10_init 44 = .ok (.aload_n 0, 1) := by decide +kernel
theorem dX10_init_45 : decode cX10_init 45 = .ok (.bipush 9, 2) := by decide +kernel
theorem dX10_init_47 : decode cX10_init 47 = .ok (.newarray .int, 2) := by decide +kernel
theorem dX10_init_49 : decode cX10_init 49 = .ok (.putfield 27, 3) := by decide +kernel
theorem dX10_init_52 : decode cX10_init 52 = .ok (.aload_n 0, 1) := by decide +kernel
theorem dX10_init_53 : decode cX10_init 53 = .ok (.sipush 240, 3) := by decide +kernel
theorem dX10_init_56 : decode cX10_init 56 = .ok (.newarray .int, 2) := by decide +kernel
theorem dX10_init_58 : decode cX10_init 58 = .ok (.putfield 30, 3) := by decide +kernel
theorem dX10_init_61 : decode cX10_init 61 = .ok (.aload_n 0, 1) := by decide +kernel
theorem dX10_init_62 : decode cX10_init 62 = .ok (.bipush 18, 2) := by decide +kernel
theorem dX10_init_64 : decode cX10_init 64 = .ok (.newarray .int, 2) := by decide +kernel
theorem dX10_init_66 : decode cX10_init 66 = .ok (.putfield 33, 3) := by decide +kernel
theorem dX10_init_69 : decode cX10_init 69 = .ok (.aload_n 0, 1) := by decide +kernel
theorem dX10_init_70 : decode cX10_init 70 = .ok (.bipush 9, 2) := by decide +kernel
theorem dX10_init_72 : decode cX10_init 72 = .ok (.newarray .int, 2) := by decide +kernel
theorem dX10_init_74 : decode cX10_init 74 = .ok (.putfield 36, 3) := by decide +kernel
theorem dX10_init_77 : decode cX10_init 77 = .ok (.aload_n 0, 1) := by decide +kernel
theorem dX10_init_78 : decode cX10_init 78 = .ok (.ldc 39, 2) := by decide +kernel
theorem dX10_init_80 : decode cX10_init 80 = .ok (.newarray .byte, 2) := by decide +kernel
theorem dX10_init_82 : decode cX10_init 82 = .ok (.putfield 40, 3) := by decide +kernel
theorem dX10_init_85 : decode cX10_init 85 = .ok (.aload_n 0, 1) := by decide +kernel
theorem dX10_init_86 : decode cX10_init 86 = .ok (.sipush 512, 3) := by decide +kernel
theorem dX10_init_89 : decode cX10_init 89 = .ok (.newarray .int, 2) := by decide +kernel
theorem dX10_init_91 : decode cX10_init 91 = .ok (.putfield 43, 3) := by decide +kernel
theorem dX10_init_94 : decode cX10_init 94 = .ok (.aload_n 0, 1) := by decide +kernel
theorem dX10_init_95 : decode cX10_init 95 = .ok (.sipush 512, 3) := by decide +kernel
theorem dX10_init_98 : decode cX10_init 98 = .ok (.newarray .int, 2) := by decide +kernel
theorem dX10_init_100 : decode cX10_init 100 = .ok (.putfield 46, 3) := by decide +kernel
theorem dX10_init_103 : decode cX10_init 103 = .ok (.aload_n 0, 1) := by decide +kernel
theorem dX10_init_104 : decode cX10_init 104 = .ok (.iconst 2, 1) := by decide +kernel
theorem dX10_init_105 : decode cX10_init 105 = .ok (.newarray .int, 2) := by decide +kernel
theorem dX10_init_107 : decode cX10_init 107 = .ok (.putfield 49, 3) := by decide +kernel
theorem dX10_init_110 : decode cX10_init 110 = .ok (.aload_n 0, 1) := by decide +kernel
theorem dX10_init_111 : decode cX10_init 111 = .ok (.invokevirtual 52, 3) := by decide +kernel
theorem dX10_init_114 : decode cX10_init 114 = .ok (.aload_n 0, 1) := by decide +kernel
theorem dX10_init_115 : decode cX10_init 115 = .ok (.invokevirtual 55, 3) := by decide +kernel
theorem dX10_init_118 : decode cX10_init 118 = .ok (.return_, 1) := by decide +kernel
def fX10_init (F : Nat) : Option (Int32 × Int32 × Int32 × Int32 × Int32 × Int32 × Int32 × Int32 × (Nat → Int32) × (Nat → Int32) × (Nat → Int32) × (Nat → Int32) × (Nat → Int32) × (Nat → Int32) × (Nat → Int32) × (Nat → Int32) × (Nat → Int32) × (Nat → Int32) × (Nat → Int32) × (Nat → Int32) × (Nat → Int32)) :=
((fX10_begins F ((fun _ => (0 : Int32))) ((fun _ => (0 : Int32))) ((fun _ => (0 : Int32))) ((fun _ => (0 : Int32)))).bind fun r14 =>
((fX10_takes F ((0 : Int32)) ((0 : Int32)) ((0 : Int32)) ((0 : Int32)) r14.1 r14.2.1 r14.2.2.1 r14.2.2.2 ((fun _ => (0 : Int32))) ((fun _ => (0 : Int32)))).bind fun r16 =>
(some ((0 : Int32), (0 : Int32), r16.1, r16.2.1, r16.2.2.1, r16.2.2.2.1, (0 : Int32), (0 : Int32), (fun _ => (0 : Int32)), r16.2.2.2.2.1, r16.2.2.2.2.2.1, r16.2.2.2.2.2.2.1, r16.2.2.2.2.2.2.2.1, r16.2.2.2.2.2.2.2.2.1, r16.2.2.2.2.2.2.2.2.2, (fun _ => (0 : Int32)), (fun _ => (0 : Int32)), (fun _ => (0 : Int32)), (fun _ => (0 : Int32)), (fun _ => (0 : Int32)), (fun _ => (0 : Int32))))))
set_option maxHeartbeats 40000000 in
set_option maxRecDepth 100000 in
theorem mX10_init (l : Launch) (D : jv_D) (F : Nat) (h_t : Nat) (r : Int32 × Int32 × Int32 × Int32 × Int32 × Int32 × Int32 × Int32 × (Nat → Int32) × (Nat → Int32) × (Nat → Int32) × (Nat → Int32) × (Nat → Int32) × (Nat → Int32) × (Nat → Int32) × (Nat → Int32) × (Nat → Int32) × (Nat → Int32) × (Nat → Int32) × (Nat → Int32) × (Nat → Int32)) (h : fX10_init F = some r) : MN l yX10_init (jW yX10_init cX10_init 1 none) ({ frames := 1, cells := 13, slots := 263708, locals := 64 }) D [.ref h_t] [(h_t, .inr (8, [.int ((0 : Int32)), .null, .int ((0 : Int32)), .null, .null, .null, .null, .null, .int ((0 : Int32)), .null, .int ((0 : Int32)), .int ((0 : Int32)), .int ((0 : Int32)), .null, .null, .int ((0 : Int32)), .null, .null, .null, .int ((0 : Int32)), .null]))] 13 263708 (fun _ : Nat × Nat × Nat × Nat × Nat × Nat × Nat × Nat × Nat × Nat × Nat × Nat × Nat => none) (fun u : Nat × Nat × Nat × Nat × Nat × Nat × Nat × Nat × Nat × Nat × Nat × Nat × Nat => [(h_t, .inr (8, [.int r.1, .ref u.1, .int r.2.1, .ref u.2.1, .ref u.2.2.1, .ref u.2.2.2.1, .ref u.2.2.2.2.1, .ref u.2.2.2.2.2.1, .int r.2.2.1, .ref u.2.2.2.2.2.2.1, .int r.2.2.2.1, .int r.2.2.2.2.1, .int r.2.2.2.2.2.1, .ref u.2.2.2.2.2.2.2.1, .ref u.2.2.2.2.2.2.2.2.1, .int r.2.2.2.2.2.2.1, .ref u.2.2.2.2.2.2.2.2.2.1, .ref u.2.2.2.2.2.2.2.2.2.2.1, .ref u.2.2.2.2.2.2.2.2.2.2.2.1, .int r.2.2.2.2.2.2.2.1, .ref u.2.2.2.2.2.2.2.2.2.2.2.2])), (u.1, jB D 200 r.2.2.2.2.2.2.2.2.1), (u.2.1, jI D 8 r.2.2.2.2.2.2.2.2.2.1), (u.2.2.1, jZ D 32 r.2.2.2.2.2.2.2.2.2.2.1), (u.2.2.2.1, jI D 4 r.2.2.2.2.2.2.2.2.2.2.2.1), (u.2.2.2.2.1, jI D 18 r.2.2.2.2.2.2.2.2.2.2.2.2.1), (u.2.2.2.2.2.1, jI D 9 r.2.2.2.2.2.2.2.2.2.2.2.2.2.1), (u.2.2.2.2.2.2.1, jI D 240 r.2.2.2.2.2.2.2.2.2.2.2.2.2.2.1), (u.2.2.2.2.2.2.2.1, jI D 18 r.2.2.2.2.2.2.2.2.2.2.2.2.2.2.2.1), (u.2.2.2.2.2.2.2.2.1, jI D 9 r.2.2.2.2.2.2.2.2.2.2.2.2.2.2.2.2.1), (u.2.2.2.2.2.2.2.2.2.1, jB D 262144 r.2.2.2.2.2.2.2.2.2.2.2.2.2.2.2.2.2.1), (u.2.2.2.2.2.2.2.2.2.2.1, jI D 512 r.2.2.2.2.2.2.2.2.2.2.2.2.2.2.2.2.2.2.1), (u.2.2.2.2.2.2.2.2.2.2.2.1, jI D 512 r.2.2.2.2.2.2.2.2.2.2.2.2.2.2.2.2.2.2.2.1), (u.2.2.2.2.2.2.2.2.2.2.2.2, jI D 2 r.2.2.2.2.2.2.2.2.2.2.2.2.2.2.2.2.2.2.2.2)]) := by
  refine mn_of hpX10_init (Nat.le_of_ble_eq_true rfl) ?_
  intro X hXl C E hN
  subst hXl
  replace C : JC D X 1 RX10 cX10_init ({ frames := 1, cells := 13, slots := 263708, locals := 64 }) := C
  show JJ D X 1 0 0 0 [(0, .ref h_t)] [] [(h_t, .inr (8, [.int ((0 : Int32)), .null, .int ((0 : Int32)), .null, .null, .null, .null, .null, .int ((0 : Int32)), .null, .int ((0 : Int32)), .int ((0 : Int32)), .int ((0 : Int32)), .null, .null, .int ((0 : Int32)), .null, .null, .null, .int ((0 : Int32)), .null]))]
  unfold fX10_init at h
  refine j_aload_n C dX10_init_0 rfl 0 rfl ?_
  refine j_objInit C bmX10_1 boi boc dX10_init_1 ⟨Nat.le_of_ble_eq_true rfl, Nat.le_of_ble_eq_true rfl⟩ ?_
  refine j_aload_n C dX10_init_4 rfl 0 rfl ?_
  refine j_sipush C dX10_init_5 (v := (200 : Int32)) (by decide) ?_
  refine j_newa C (atype := .byte) 2 (ty := .byte) rfl (fun _ _ h => h) baa_byte rfl (N := 200) (a0 := (200, .inl (fun _ => (0 : Int32)))) (fun _ => rfl) (by decide) (by decide +kernel) (Nat.le_of_ble_eq_true rfl) ⟨Nat.le_of_ble_eq_true rfl, Nat.le_of_ble_eq_true rfl⟩ dX10_init_8 (fun h1 => ?_)
  show JJ D X 1 (0 + 1) (0 + 200) 10 [(0, .ref h_t)] [.ref h1, .ref h_t] [(h_t, .inr (8, [.int ((0 : Int32)), .null, .int ((0 : Int32)), .null, .null, .null, .null, .null, .int ((0 : Int32)), .null, .int ((0 : Int32)), .int ((0 : Int32)), .int ((0 : Int32)), .null, .null, .int ((0 : Int32)), .null, .null, .null, .int ((0 : Int32)), .null])), (h1, jB D 200 ((fun _ => (0 : Int32))))]
  refine j_putF C ibX10 tyX10 tyX10_ok nmX10 (hN rfl) (ci := 8) 0 rfl rfl 1 (by decide) bfX10_7 rfl rfl rfl rfl (Nat.le_of_ble_eq_true rfl) dX10_init_10 (ws' := [(h_t, .inr (8, [.int ((0 : Int32)), .ref h1, .int ((0 : Int32)), .null, .null, .null, .null, .null, .int ((0 : Int32)), .null, .int ((0 : Int32)), .int ((0 : Int32)), .int ((0 : Int32)), .null, .null, .int ((0 : Int32)), .null, .null, .null, .int ((0 : Int32)), .null])), (h1, jB D 200 ((fun _ => (0 : Int32))))]) rfl ?_
  refine j_aload_n C dX10_init_13 rfl 0 rfl ?_
  refine j_bipush C dX10_init_14 (v := (8 : Int32)) (by decide) ?_
  refine j_newa C (atype := .int) 0 (ty := .int) rfl (fun _ _ h => h) baa_int rfl (N := 8) (a0 := (8, .inl (fun _ => (0 : Int32)))) (fun _ => rfl) (by decide) (by decide +kernel) (Nat.le_of_ble_eq_true rfl) ⟨Nat.le_of_ble_eq_true rfl, Nat.le_of_ble_eq_true rfl⟩ dX10_init_16 (fun h2 => ?_)
  show JJ D X 1 ((0 + 1) + 1) ((0 + 200) + 8) 18 [(0, .ref h_t)] [.ref h2, .ref h_t] [(h_t, .inr (8, [.int ((0 : Int32)), .ref h1, .int ((0 : Int32)), .null, .null, .null, .null, .null, .int ((0 : Int32)), .null, .int ((0 : Int32)), .int ((0 : Int32)), .int ((0 : Int32)), .null, .null, .int ((0 : Int32)), .null, .null, .null, .int ((0 : Int32)), .null])), (h1, jB D 200 ((fun _ => (0 : Int32)))), (h2, jI D 8 ((fun _ => (0 : Int32))))]
  refine j_putF C ibX10 tyX10 tyX10_ok nmX10 (hN rfl) (ci := 8) 0 rfl rfl 3 (by decide) bfX10_13 rfl rfl rfl rfl (Nat.le_of_ble_eq_true rfl) dX10_init_18 (ws' := [(h_t, .inr (8, [.int ((0 : Int32)), .ref h1, .int ((0 : Int32)), .ref h2, .null, .null, .null, .null, .int ((0 : Int32)), .null, .int ((0 : Int32)), .int ((0 : Int32)), .int ((0 : Int32)), .null, .null, .int ((0 : Int32)), .null, .null, .null, .int ((0 : Int32)), .null])), (h1, jB D 200 ((fun _ => (0 : Int32)))), (h2, jI D 8 ((fun _ => (0 : Int32))))]) rfl ?_
  refine j_aload_n C dX10_init_21 rfl 0 rfl ?_
  refine j_bipush C dX10_init_22 (v := (32 : Int32)) (by decide) ?_
  refine j_newa C (atype := .boolean) 3 (ty := .boolean) rfl (fun _ _ h => h) baa_boolean rfl (N := 32) (a0 := (32, .inl (fun _ => (0 : Int32)))) (fun _ => rfl) (by decide) (by decide +kernel) (Nat.le_of_ble_eq_true rfl) ⟨Nat.le_of_ble_eq_true rfl, Nat.le_of_ble_eq_true rfl⟩ dX10_init_24 (fun h3 => ?_)
  show JJ D X 1 (((0 + 1) + 1) + 1) (((0 + 200) + 8) + 32) 26 [(0, .ref h_t)] [.ref h3, .ref h_t] [(h_t, .inr (8, [.int ((0 : Int32)), .ref h1, .int ((0 : Int32)), .ref h2, .null, .null, .null, .null, .int ((0 : Int32)), .null, .int ((0 : Int32)), .int ((0 : Int32)), .int ((0 : Int32)), .null, .null, .int ((0 : Int32)), .null, .null, .null, .int ((0 : Int32)), .null])), (h1, jB D 200 ((fun _ => (0 : Int32)))), (h2, jI D 8 ((fun _ => (0 : Int32)))), (h3, jZ D 32 ((fun _ => (0 : Int32))))]
  refine j_putF C ibX10 tyX10 tyX10_ok nmX10 (hN rfl) (ci := 8) 0 rfl rfl 4 (by decide) bfX10_17 rfl rfl rfl rfl (Nat.le_of_ble_eq_true rfl) dX10_init_26 (ws' := [(h_t, .inr (8, [.int ((0 : Int32)), .ref h1, .int ((0 : Int32)), .ref h2, .ref h3, .null, .null, .null, .int ((0 : Int32)), .null, .int ((0 : Int32)), .int ((0 : Int32)), .int ((0 : Int32)), .null, .null, .int ((0 : Int32)), .null, .null, .null, .int ((0 : Int32)), .null])), (h1, jB D 200 ((fun _ => (0 : Int32)))), (h2, jI D 8 ((fun _ => (0 : Int32)))), (h3, jZ D 32 ((fun _ => (0 : Int32))))]) rfl ?_
  refine j_aload_n C dX10_init_29 rfl 0 rfl ?_
  refine j_iconst C dX10_init_30 (v := (4 : Int32)) (by decide) ?_
  refine j_newa C (atype := .int) 0 (ty := .int) rfl (fun _ _ h => h) baa_int rfl (N := 4) (a0 := (4, .inl (fun _ => (0 : Int32)))) (fun _ => rfl) (by decide) (by decide +kernel) (Nat.le_of_ble_eq_true rfl) ⟨Nat.le_of_ble_eq_true rfl, Nat.le_of_ble_eq_true rfl⟩ dX10_init_31 (fun h4 => ?_)
  show JJ D X 1 ((((0 + 1) + 1) + 1) + 1) ((((0 + 200) + 8) + 32) + 4) 33 [(0, .ref h_t)] [.ref h4, .ref h_t] [(h_t, .inr (8, [.int ((0 : Int32)), .ref h1, .int ((0 : Int32)), .ref h2, .ref h3, .null, .null, .null, .int ((0 : Int32)), .null, .int ((0 : Int32)), .int ((0 : Int32)), .int ((0 : Int32)), .null, .null, .int ((0 : Int32)), .null, .null, .null, .int ((0 : Int32)), .null])), (h1, jB D 200 ((fun _ => (0 : Int32)))), (h2, jI D 8 ((fun _ => (0 : Int32)))), (h3, jZ D 32 ((fun _ => (0 : Int32)))), (h4, jI D 4 ((fun _ => (0 : Int32))))]
  refine j_putF C ibX10 tyX10 tyX10_ok nmX10 (hN rfl) (ci := 8) 0 rfl rfl 5 (by decide) bfX10_21 rfl rfl rfl rfl (Nat.le_of_ble_eq_true rfl) dX10_init_33 (ws' := [(h_t, .inr (8, [.int ((0 : Int32)), .ref h1, .int ((0 : Int32)), .ref h2, .ref h3, .ref h4, .null, .null, .int ((0 : Int32)), .null, .int ((0 : Int32)), .int ((0 : Int32)), .int ((0 : Int32)), .null, .null, .int ((0 : Int32)), .null, .null, .null, .int ((0 : Int32)), .null])), (h1, jB D 200 ((fun _ => (0 : Int32)))), (h2, jI D 8 ((fun _ => (0 : Int32)))), (h3, jZ D 32 ((fun _ => (0 : Int32)))), (h4, jI D 4 ((fun _ => (0 : Int32))))]) rfl ?_
  refine j_aload_n C dX10_init_36 rfl 0 rfl ?_
  refine j_bipush C dX10_init_37 (v := (18 : Int32)) (by decide) ?_
  refine j_newa C (atype := .int) 0 (ty := .int) rfl (fun _ _ h => h) baa_int rfl (N := 18) (a0 := (18, .inl (fun _ => (0 : Int32)))) (fun _ => rfl) (by decide) (by decide +kernel) (Nat.le_of_ble_eq_true rfl) ⟨Nat.le_of_ble_eq_true rfl, Nat.le_of_ble_eq_true rfl⟩ dX10_init_39 (fun h5 => ?_)
  show JJ D X 1 (((((0 + 1) + 1) + 1) + 1) + 1) (((((0 + 200) + 8) + 32) + 4) + 18) 41 [(0, .ref h_t)] [.ref h5, .ref h_t] [(h_t, .inr (8, [.int ((0 : Int32)), .ref h1, .int ((0 : Int32)), .ref h2, .ref h3, .ref h4, .null, .null, .int ((0 : Int32)), .null, .int ((0 : Int32)), .int ((0 : Int32)), .int ((0 : Int32)), .null, .null, .int ((0 : Int32)), .null, .null, .null, .int ((0 : Int32)), .null])), (h1, jB D 200 ((fun _ => (0 : Int32)))), (h2, jI D 8 ((fun _ => (0 : Int32)))), (h3, jZ D 32 ((fun _ => (0 : Int32)))), (h4, jI D 4 ((fun _ => (0 : Int32)))), (h5, jI D 18 ((fun _ => (0 : Int32))))]
  refine j_putF C ibX10 tyX10 tyX10_ok nmX10 (hN rfl) (ci := 8) 0 rfl rfl 6 (by decide) bfX10_24 rfl rfl rfl rfl (Nat.le_of_ble_eq_true rfl) dX10_init_41 (ws' := [(h_t, .inr (8, [.int ((0 : Int32)), .ref h1, .int ((0 : Int32)), .ref h2, .ref h3, .ref h4, .ref h5, .null, .int ((0 : Int32)), .null, .int ((0 : Int32)), .int ((0 : Int32)), .int ((0 : Int32)), .null, .null, .int ((0 : Int32)), .null, .null, .null, .int ((0 : Int32)), .null])), (h1, jB D 200 ((fun _ => (0 : Int32)))), (h2, jI D 8 ((fun _ => (0 : Int32)))), (h3, jZ D 32 ((fun _ => (0 : Int32)))), (h4, jI D 4 ((fun _ => (0 : Int32)))), (h5, jI D 18 ((fun _ => (0 : Int32))))]) rfl ?_
  refine j_aload_n C dX10_init_44 rfl 0 rfl ?_
  refine j_bipush C dX10_init_45 (v := (9 : Int32)) (by decide) ?_
  refine j_newa C (atype := .int) 0 (ty := .int) rfl (fun _ _ h => h) baa_int rfl (N := 9) (a0 := (9, .inl (fun _ => (0 : Int32)))) (fun _ => rfl) (by decide) (by decide +kernel) (Nat.le_of_ble_eq_true rfl) ⟨Nat.le_of_ble_eq_true rfl, Nat.le_of_ble_eq_true rfl⟩ dX10_init_47 (fun h6 => ?_)
  show JJ D X 1 ((((((0 + 1) + 1) + 1) + 1) + 1) + 1) ((((((0 + 200) + 8) + 32) + 4) + 18) + 9) 49 [(0, .ref h_t)] [.ref h6, .ref h_t] [(h_t, .inr (8, [.int ((0 : Int32)), .ref h1, .int ((0 : Int32)), .ref h2, .ref h3, .ref h4, .ref h5, .null, .int ((0 : Int32)), .null, .int ((0 : Int32)), .int ((0 : Int32)), .int ((0 : Int32)), .null, .null, .int ((0 : Int32)), .null, .null, .null, .int ((0 : Int32)), .null])), (h1, jB D 200 ((fun _ => (0 : Int32)))), (h2, jI D 8 ((fun _ => (0 : Int32)))), (h3, jZ D 32 ((fun _ => (0 : Int32)))), (h4, jI D 4 ((fun _ => (0 : Int32)))), (h5, jI D 18 ((fun _ => (0 : Int32)))), (h6, jI D 9 ((fun _ => (0 : Int32))))]
  refine j_putF C ibX10 tyX10 tyX10_ok nmX10 (hN rfl) (ci := 8) 0 rfl rfl 7 (by decide) bfX10_27 rfl rfl rfl rfl (Nat.le_of_ble_eq_true rfl) dX10_init_49 (ws' := [(h_t, .inr (8, [.int ((0 : Int32)), .ref h1, .int ((0 : Int32)), .ref h2, .ref h3, .ref h4, .ref h5, .ref h6, .int ((0 : Int32)), .null, .int ((0 : Int32)), .int ((0 : Int32)), .int ((0 : Int32)), .null, .null, .int ((0 : Int32)), .null, .null, .null, .int ((0 : Int32)), .null])), (h1, jB D 200 ((fun _ => (0 : Int32)))), (h2, jI D 8 ((fun _ => (0 : Int32)))), (h3, jZ D 32 ((fun _ => (0 : Int32)))), (h4, jI D 4 ((fun _ => (0 : Int32)))), (h5, jI D 18 ((fun _ => (0 : Int32)))), (h6, jI D 9 ((fun _ => (0 : Int32))))]) rfl ?_
  refine j_aload_n C dX10_init_52 rfl 0 rfl ?_
  refine j_sipush C dX10_init_53 (v := (240 : Int32)) (by decide) ?_
  refine j_newa C (atype := .int) 0 (ty := .int) rfl (fun _ _ h => h) baa_int rfl (N := 240) (a0 := (240, .inl (fun _ => (0 : Int32)))) (fun _ => rfl) (by decide) (by decide +kernel) (Nat.le_of_ble_eq_true rfl) ⟨Nat.le_of_ble_eq_true rfl, Nat.le_of_ble_eq_true rfl⟩ dX10_init_56 (fun h7 => ?_)
  show JJ D X 1 (((((((0 + 1) + 1) + 1) + 1) + 1) + 1) + 1) (((((((0 + 200) + 8) + 32) + 4) + 18) + 9) + 240) 58 [(0, .ref h_t)] [.ref h7, .ref h_t] [(h_t, .inr (8, [.int ((0 : Int32)), .ref h1, .int ((0 : Int32)), .ref h2, .ref h3, .ref h4, .ref h5, .ref h6, .int ((0 : Int32)), .null, .int ((0 : Int32)), .int ((0 : Int32)), .int ((0 : Int32)), .null, .null, .int ((0 : Int32)), .null, .null, .null, .int ((0 : Int32)), .null])), (h1, jB D 200 ((fun _ => (0 : Int32)))), (h2, jI D 8 ((fun _ => (0 : Int32)))), (h3, jZ D 32 ((fun _ => (0 : Int32)))), (h4, jI D 4 ((fun _ => (0 : Int32)))), (h5, jI D 18 ((fun _ => (0 : Int32)))), (h6, jI D 9 ((fun _ => (0 : Int32)))), (h7, jI D 240 ((fun _ => (0 : Int32))))]
  refine j_putF C ibX10 tyX10 tyX10_ok nmX10 (hN rfl) (ci := 8) 0 rfl rfl 9 (by decide) bfX10_30 rfl rfl rfl rfl (Nat.le_of_ble_eq_true rfl) dX10_init_58 (ws' := [(h_t, .inr (8, [.int ((0 : Int32)), .ref h1, .int ((0 : Int32)), .ref h2, .ref h3, .ref h4, .ref h5, .ref h6, .int ((0 : Int32)), .ref h7, .int ((0 : Int32)), .int ((0 : Int32)), .int ((0 : Int32)), .null, .null, .int ((0 : Int32)), .null, .null, .null, .int ((0 : Int32)), .null])), (h1, jB D 200 ((fun _ => (0 : Int32)))), (h2, jI D 8 ((fun _ => (0 : Int32)))), (h3, jZ D 32 ((fun _ => (0 : Int32)))), (h4, jI D 4 ((fun _ => (0 : Int32)))), (h5, jI D 18 ((fun _ => (0 : Int32)))), (h6, jI D 9 ((fun _ => (0 : Int32)))), (h7, jI D 240 ((fun _ => (0 : Int32))))]) rfl ?_
  refine j_aload_n C dX10_init_61 rfl 0 rfl ?_
  refine j_bipush C dX10_init_62 (v := (18 : Int32)) (by decide) ?_
  refine j_newa C (atype := .int) 0 (ty := .int) rfl (fun _ _ h => h) baa_int rfl (N := 18) (a0 := (18, .inl (fun _ => (0 : Int32)))) (fun _ => rfl) (by decide) (by decide +kernel) (Nat.le_of_ble_eq_true rfl) ⟨Nat.le_of_ble_eq_true rfl, Nat.le_of_ble_eq_true rfl⟩ dX10_init_64 (fun h8 => ?_)
  show JJ D X 1 ((((((((0 + 1) + 1) + 1) + 1) + 1) + 1) + 1) + 1) ((((((((0 + 200) + 8) + 32) + 4) + 18) + 9) + 240) + 18) 66 [(0, .ref h_t)] [.ref h8, .ref h_t] [(h_t, .inr (8, [.int ((0 : Int32)), .ref h1, .int ((0 : Int32)), .ref h2, .ref h3, .ref h4, .ref h5, .ref h6, .int ((0 : Int32)), .ref h7, .int ((0 : Int32)), .int ((0 : Int32)), .int ((0 : Int32)), .null, .null, .int ((0 : Int32)), .null, .null, .null, .int ((0 : Int32)), .null])), (h1, jB D 200 ((fun _ => (0 : Int32)))), (h2, jI D 8 ((fun _ => (0 : Int32)))), (h3, jZ D 32 ((fun _ => (0 : Int32)))), (h4, jI D 4 ((fun _ => (0 : Int32)))), (h5, jI D 18 ((fun _ => (0 : Int32)))), (h6, jI D 9 ((fun _ => (0 : Int32)))), (h7, jI D 240 ((fun _ => (0 : Int32)))), (h8, jI D 18 ((fun _ => (0 : Int32))))]
  refine j_putF C ibX10 tyX10 tyX10_ok nmX10 (hN rfl) (ci := 8) 0 rfl rfl 13 (by decide) bfX10_33 rfl rfl rfl rfl (Nat.le_of_ble_eq_true rfl) dX10_init_66 (ws' := [(h_t, .inr (8, [.int ((0 : Int32)), .ref h1, .int ((0 : Int32)), .ref h2, .ref h3, .ref h4, .ref h5, .ref h6, .int ((0 : Int32)), .ref h7, .int ((0 : Int32)), .int ((0 : Int32)), .int ((0 : Int32)), .ref h8, .null, .int ((0 : Int32)), .null, .null, .null, .int ((0 : Int32)), .null])), (h1, jB D 200 ((fun _ => (0 : Int32)))), (h2, jI D 8 ((fun _ => (0 : Int32)))), (h3, jZ D 32 ((fun _ => (0 : Int32)))), (h4, jI D 4 ((fun _ => (0 : Int32)))), (h5, jI D 18 ((fun _ => (0 : Int32)))), (h6, jI D 9 ((fun _ => (0 : Int32)))), (h7, jI D 240 ((fun _ => (0 : Int32)))), (h8, jI D 18 ((fun _ => (0 : Int32))))]) rfl ?_
  refine j_aload_n C dX10_init_69 rfl 0 rfl ?_
  refine j_bipush C dX10_init_70 (v := (9 : Int32)) (by decide) ?_
  refine j_newa C (atype := .int) 0 (ty := .int) rfl (fun _ _ h => h) baa_int rfl (N := 9) (a0 := (9, .inl (fun _ => (0 : Int32)))) (fun _ => rfl) (by decide) (by decide +kernel) (Nat.le_of_ble_eq_true rfl) ⟨Nat.le_of_ble_eq_true rfl, Nat.le_of_ble_eq_true rfl⟩ dX10_init_72 (fun h9 => ?_)
  show JJ D X 1 (((((((((0 + 1) + 1) + 1) + 1) + 1) + 1) + 1) + 1) + 1) (((((((((0 + 200) + 8) + 32) + 4) + 18) + 9) + 240) + 18) + 9) 74 [(0, .ref h_t)] [.ref h9, .ref h_t] [(h_t, .inr (8, [.int ((0 : Int32)), .ref h1, .int ((0 : Int32)), .ref h2, .ref h3, .ref h4, .ref h5, .ref h6, .int ((0 : Int32)), .ref h7, .int ((0 : Int32)), .int ((0 : Int32)), .int ((0 : Int32)), .ref h8, .null, .int ((0 : Int32)), .null, .null, .null, .int ((0 : Int32)), .null])), (h1, jB D 200 ((fun _ => (0 : Int32)))), (h2, jI D 8 ((fun _ => (0 : Int32)))), (h3, jZ D 32 ((fun _ => (0 : Int32)))), (h4, jI D 4 ((fun _ => (0 : Int32)))), (h5, jI D 18 ((fun _ => (0 : Int32)))), (h6, jI D 9 ((fun _ => (0 : Int32)))), (h7, jI D 240 ((fun _ => (0 : Int32)))), (h8, jI D 18 ((fun _ => (0 : Int32)))), (h9, jI D 9 ((fun _ => (0 : Int32))))]
  refine j_putF C ibX10 tyX10 tyX10_ok nmX10 (hN rfl) (ci := 8) 0 rfl rfl 14 (by decide) bfX10_36 rfl rfl rfl rfl (Nat.le_of_ble_eq_true rfl) dX10_init_74 (ws' := [(h_t, .inr (8, [.int ((0 : Int32)), .ref h1, .int ((0 : Int32)), .ref h2, .ref h3, .ref h4, .ref h5, .ref h6, .int ((0 : Int32)), .ref h7, .int ((0 : Int32)), .int ((0 : Int32)), .int ((0 : Int32)), .ref h8, .ref h9, .int ((0 : Int32)), .null, .null, .null, .int ((0 : Int32)), .null])), (h1, jB D 200 ((fun _ => (0 : Int32)))), (h2, jI D 8 ((fun _ => (0 : Int32)))), (h3, jZ D 32 ((fun _ => (0 : Int32)))), (h4, jI D 4 ((fun _ => (0 : Int32)))), (h5, jI D 18 ((fun _ => (0 : Int32)))), (h6, jI D 9 ((fun _ => (0 : Int32)))), (h7, jI D 240 ((fun _ => (0 : Int32)))), (h8, jI D 18 ((fun _ => (0 : Int32)))), (h9, jI D 9 ((fun _ => (0 : Int32))))]) rfl ?_
  refine j_aload_n C dX10_init_77 rfl 0 rfl ?_
  refine j_ldc C bkX10_39 dX10_init_78 ?_
  refine j_newa C (atype := .byte) 2 (ty := .byte) rfl (fun _ _ h => h) baa_byte rfl (N := 262144) (a0 := (262144, .inl (fun _ => (0 : Int32)))) (fun _ => rfl) (by decide) (by decide +kernel) (Nat.le_of_ble_eq_true rfl) ⟨Nat.le_of_ble_eq_true rfl, Nat.le_of_ble_eq_true rfl⟩ dX10_init_80 (fun h10 => ?_)
  show JJ D X 1 ((((((((((0 + 1) + 1) + 1) + 1) + 1) + 1) + 1) + 1) + 1) + 1) ((((((((((0 + 200) + 8) + 32) + 4) + 18) + 9) + 240) + 18) + 9) + 262144) 82 [(0, .ref h_t)] [.ref h10, .ref h_t] [(h_t, .inr (8, [.int ((0 : Int32)), .ref h1, .int ((0 : Int32)), .ref h2, .ref h3, .ref h4, .ref h5, .ref h6, .int ((0 : Int32)), .ref h7, .int ((0 : Int32)), .int ((0 : Int32)), .int ((0 : Int32)), .ref h8, .ref h9, .int ((0 : Int32)), .null, .null, .null, .int ((0 : Int32)), .null])), (h1, jB D 200 ((fun _ => (0 : Int32)))), (h2, jI D 8 ((fun _ => (0 : Int32)))), (h3, jZ D 32 ((fun _ => (0 : Int32)))), (h4, jI D 4 ((fun _ => (0 : Int32)))), (h5, jI D 18 ((fun _ => (0 : Int32)))), (h6, jI D 9 ((fun _ => (0 : Int32)))), (h7, jI D 240 ((fun _ => (0 : Int32)))), (h8, jI D 18 ((fun _ => (0 : Int32)))), (h9, jI D 9 ((fun _ => (0 : Int32)))), (h10, jB D 262144 ((fun _ => (0 : Int32))))]
  refine j_putF C ibX10 tyX10 tyX10_ok nmX10 (hN rfl) (ci := 8) 0 rfl rfl 16 (by decide) bfX10_40 rfl rfl rfl rfl (Nat.le_of_ble_eq_true rfl) dX10_init_82 (ws' := [(h_t, .inr (8, [.int ((0 : Int32)), .ref h1, .int ((0 : Int32)), .ref h2, .ref h3, .ref h4, .ref h5, .ref h6, .int ((0 : Int32)), .ref h7, .int ((0 : Int32)), .int ((0 : Int32)), .int ((0 : Int32)), .ref h8, .ref h9, .int ((0 : Int32)), .ref h10, .null, .null, .int ((0 : Int32)), .null])), (h1, jB D 200 ((fun _ => (0 : Int32)))), (h2, jI D 8 ((fun _ => (0 : Int32)))), (h3, jZ D 32 ((fun _ => (0 : Int32)))), (h4, jI D 4 ((fun _ => (0 : Int32)))), (h5, jI D 18 ((fun _ => (0 : Int32)))), (h6, jI D 9 ((fun _ => (0 : Int32)))), (h7, jI D 240 ((fun _ => (0 : Int32)))), (h8, jI D 18 ((fun _ => (0 : Int32)))), (h9, jI D 9 ((fun _ => (0 : Int32)))), (h10, jB D 262144 ((fun _ => (0 : Int32))))]) rfl ?_
  refine j_aload_n C dX10_init_85 rfl 0 rfl ?_
  refine j_sipush C dX10_init_86 (v := (512 : Int32)) (by decide) ?_
  refine j_newa C (atype := .int) 0 (ty := .int) rfl (fun _ _ h => h) baa_int rfl (N := 512) (a0 := (512, .inl (fun _ => (0 : Int32)))) (fun _ => rfl) (by decide) (by decide +kernel) (Nat.le_of_ble_eq_true rfl) ⟨Nat.le_of_ble_eq_true rfl, Nat.le_of_ble_eq_true rfl⟩ dX10_init_89 (fun h11 => ?_)
  show JJ D X 1 (((((((((((0 + 1) + 1) + 1) + 1) + 1) + 1) + 1) + 1) + 1) + 1) + 1) (((((((((((0 + 200) + 8) + 32) + 4) + 18) + 9) + 240) + 18) + 9) + 262144) + 512) 91 [(0, .ref h_t)] [.ref h11, .ref h_t] [(h_t, .inr (8, [.int ((0 : Int32)), .ref h1, .int ((0 : Int32)), .ref h2, .ref h3, .ref h4, .ref h5, .ref h6, .int ((0 : Int32)), .ref h7, .int ((0 : Int32)), .int ((0 : Int32)), .int ((0 : Int32)), .ref h8, .ref h9, .int ((0 : Int32)), .ref h10, .null, .null, .int ((0 : Int32)), .null])), (h1, jB D 200 ((fun _ => (0 : Int32)))), (h2, jI D 8 ((fun _ => (0 : Int32)))), (h3, jZ D 32 ((fun _ => (0 : Int32)))), (h4, jI D 4 ((fun _ => (0 : Int32)))), (h5, jI D 18 ((fun _ => (0 : Int32)))), (h6, jI D 9 ((fun _ => (0 : Int32)))), (h7, jI D 240 ((fun _ => (0 : Int32)))), (h8, jI D 18 ((fun _ => (0 : Int32)))), (h9, jI D 9 ((fun _ => (0 : Int32)))), (h10, jB D 262144 ((fun _ => (0 : Int32)))), (h11, jI D 512 ((fun _ => (0 : Int32))))]
  refine j_putF C ibX10 tyX10 tyX10_ok nmX10 (hN rfl) (ci := 8) 0 rfl rfl 17 (by decide) bfX10_43 rfl rfl rfl rfl (Nat.le_of_ble_eq_true rfl) dX10_init_91 (ws' := [(h_t, .inr (8, [.int ((0 : Int32)), .ref h1, .int ((0 : Int32)), .ref h2, .ref h3, .ref h4, .ref h5, .ref h6, .int ((0 : Int32)), .ref h7, .int ((0 : Int32)), .int ((0 : Int32)), .int ((0 : Int32)), .ref h8, .ref h9, .int ((0 : Int32)), .ref h10, .ref h11, .null, .int ((0 : Int32)), .null])), (h1, jB D 200 ((fun _ => (0 : Int32)))), (h2, jI D 8 ((fun _ => (0 : Int32)))), (h3, jZ D 32 ((fun _ => (0 : Int32)))), (h4, jI D 4 ((fun _ => (0 : Int32)))), (h5, jI D 18 ((fun _ => (0 : Int32)))), (h6, jI D 9 ((fun _ => (0 : Int32)))), (h7, jI D 240 ((fun _ => (0 : Int32)))), (h8, jI D 18 ((fun _ => (0 : Int32)))), (h9, jI D 9 ((fun _ => (0 : Int32)))), (h10, jB D 262144 ((fun _ => (0 : Int32)))), (h11, jI D 512 ((fun _ => (0 : Int32))))]) rfl ?_
  refine j_aload_n C dX10_init_94 rfl 0 rfl ?_
  refine j_sipush C dX10_init_95 (v := (512 : Int32)) (by decide) ?_
  refine j_newa C (atype := .int) 0 (ty := .int) rfl (fun _ _ h => h) baa_int rfl (N := 512) (a0 := (512, .inl (fun _ => (0 : Int32)))) (fun _ => rfl) (by decide) (by decide +kernel) (Nat.le_of_ble_eq_true rfl) ⟨Nat.le_of_ble_eq_true rfl, Nat.le_of_ble_eq_true rfl⟩ dX10_init_98 (fun h12 => ?_)
  show JJ D X 1 ((((((((((((0 + 1) + 1) + 1) + 1) + 1) + 1) + 1) + 1) + 1) + 1) + 1) + 1) ((((((((((((0 + 200) + 8) + 32) + 4) + 18) + 9) + 240) + 18) + 9) + 262144) + 512) + 512) 100 [(0, .ref h_t)] [.ref h12, .ref h_t] [(h_t, .inr (8, [.int ((0 : Int32)), .ref h1, .int ((0 : Int32)), .ref h2, .ref h3, .ref h4, .ref h5, .ref h6, .int ((0 : Int32)), .ref h7, .int ((0 : Int32)), .int ((0 : Int32)), .int ((0 : Int32)), .ref h8, .ref h9, .int ((0 : Int32)), .ref h10, .ref h11, .null, .int ((0 : Int32)), .null])), (h1, jB D 200 ((fun _ => (0 : Int32)))), (h2, jI D 8 ((fun _ => (0 : Int32)))), (h3, jZ D 32 ((fun _ => (0 : Int32)))), (h4, jI D 4 ((fun _ => (0 : Int32)))), (h5, jI D 18 ((fun _ => (0 : Int32)))), (h6, jI D 9 ((fun _ => (0 : Int32)))), (h7, jI D 240 ((fun _ => (0 : Int32)))), (h8, jI D 18 ((fun _ => (0 : Int32)))), (h9, jI D 9 ((fun _ => (0 : Int32)))), (h10, jB D 262144 ((fun _ => (0 : Int32)))), (h11, jI D 512 ((fun _ => (0 : Int32)))), (h12, jI D 512 ((fun _ => (0 : Int32))))]
  refine j_putF C ibX10 tyX10 tyX10_ok nmX10 (hN rfl) (ci := 8) 0 rfl rfl 18 (by decide) bfX10_46 rfl rfl rfl rfl (Nat.le_of_ble_eq_true rfl) dX10_init_100 (ws' := [(h_t, .inr (8, [.int ((0 : Int32)), .ref h1, .int ((0 : Int32)), .ref h2, .ref h3, .ref h4, .ref h5, .ref h6, .int ((0 : Int32)), .ref h7, .int ((0 : Int32)), .int ((0 : Int32)), .int ((0 : Int32)), .ref h8, .ref h9, .int ((0 : Int32)), .ref h10, .ref h11, .ref h12, .int ((0 : Int32)), .null])), (h1, jB D 200 ((fun _ => (0 : Int32)))), (h2, jI D 8 ((fun _ => (0 : Int32)))), (h3, jZ D 32 ((fun _ => (0 : Int32)))), (h4, jI D 4 ((fun _ => (0 : Int32)))), (h5, jI D 18 ((fun _ => (0 : Int32)))), (h6, jI D 9 ((fun _ => (0 : Int32)))), (h7, jI D 240 ((fun _ => (0 : Int32)))), (h8, jI D 18 ((fun _ => (0 : Int32)))), (h9, jI D 9 ((fun _ => (0 : Int32)))), (h10, jB D 262144 ((fun _ => (0 : Int32)))), (h11, jI D 512 ((fun _ => (0 : Int32)))), (h12, jI D 512 ((fun _ => (0 : Int32))))]) rfl ?_
  refine j_aload_n C dX10_init_103 rfl 0 rfl ?_
  refine j_iconst C dX10_init_104 (v := (2 : Int32)) (by decide) ?_
  refine j_newa C (atype := .int) 0 (ty := .int) rfl (fun _ _ h => h) baa_int rfl (N := 2) (a0 := (2, .inl (fun _ => (0 : Int32)))) (fun _ => rfl) (by decide) (by decide +kernel) (Nat.le_of_ble_eq_true rfl) ⟨Nat.le_of_ble_eq_true rfl, Nat.le_of_ble_eq_true rfl⟩ dX10_init_105 (fun h13 => ?_)
  show JJ D X 1 (((((((((((((0 + 1) + 1) + 1) + 1) + 1) + 1) + 1) + 1) + 1) + 1) + 1) + 1) + 1) (((((((((((((0 + 200) + 8) + 32) + 4) + 18) + 9) + 240) + 18) + 9) + 262144) + 512) + 512) + 2) 107 [(0, .ref h_t)] [.ref h13, .ref h_t] [(h_t, .inr (8, [.int ((0 : Int32)), .ref h1, .int ((0 : Int32)), .ref h2, .ref h3, .ref h4, .ref h5, .ref h6, .int ((0 : Int32)), .ref h7, .int ((0 : Int32)), .int ((0 : Int32)), .int ((0 : Int32)), .ref h8, .ref h9, .int ((0 : Int32)), .ref h10, .ref h11, .ref h12, .int ((0 : Int32)), .null])), (h1, jB D 200 ((fun _ => (0 : Int32)))), (h2, jI D 8 ((fun _ => (0 : Int32)))), (h3, jZ D 32 ((fun _ => (0 : Int32)))), (h4, jI D 4 ((fun _ => (0 : Int32)))), (h5, jI D 18 ((fun _ => (0 : Int32)))), (h6, jI D 9 ((fun _ => (0 : Int32)))), (h7, jI D 240 ((fun _ => (0 : Int32)))), (h8, jI D 18 ((fun _ => (0 : Int32)))), (h9, jI D 9 ((fun _ => (0 : Int32)))), (h10, jB D 262144 ((fun _ => (0 : Int32)))), (h11, jI D 512 ((fun _ => (0 : Int32)))), (h12, jI D 512 ((fun _ => (0 : Int32)))), (h13, jI D 2 ((fun _ => (0 : Int32))))]
  refine j_putF C ibX10 tyX10 tyX10_ok nmX10 (hN rfl) (ci := 8) 0 rfl rfl 20 (by decide) bfX10_49 rfl rfl rfl rfl (Nat.le_of_ble_eq_true rfl) dX10_init_107 (ws' := [(h_t, .inr (8, [.int ((0 : Int32)), .ref h1, .int ((0 : Int32)), .ref h2, .ref h3, .ref h4, .ref h5, .ref h6, .int ((0 : Int32)), .ref h7, .int ((0 : Int32)), .int ((0 : Int32)), .int ((0 : Int32)), .ref h8, .ref h9, .int ((0 : Int32)), .ref h10, .ref h11, .ref h12, .int ((0 : Int32)), .ref h13])), (h1, jB D 200 ((fun _ => (0 : Int32)))), (h2, jI D 8 ((fun _ => (0 : Int32)))), (h3, jZ D 32 ((fun _ => (0 : Int32)))), (h4, jI D 4 ((fun _ => (0 : Int32)))), (h5, jI D 18 ((fun _ => (0 : Int32)))), (h6, jI D 9 ((fun _ => (0 : Int32)))), (h7, jI D 240 ((fun _ => (0 : Int32)))), (h8, jI D 18 ((fun _ => (0 : Int32)))), (h9, jI D 9 ((fun _ => (0 : Int32)))), (h10, jB D 262144 ((fun _ => (0 : Int32)))), (h11, jI D 512 ((fun _ => (0 : Int32)))), (h12, jI D 512 ((fun _ => (0 : Int32)))), (h13, jI D 2 ((fun _ => (0 : Int32))))]) rfl ?_
  refine j_aload_n C dX10_init_110 rfl 0 rfl ?_
  obtain ⟨r14, q15, h⟩ := jl_bind h
  refine j_cV0 C (mX10_begins (jlaunch X) D F h_t h1 h2 h3 h4 h5 h6 h7 h8 h9 h10 h11 h12 h13 ((0 : Int32)) ((0 : Int32)) ((0 : Int32)) ((0 : Int32)) ((0 : Int32)) ((0 : Int32)) ((0 : Int32)) ((0 : Int32)) ((fun _ => (0 : Int32))) ((fun _ => (0 : Int32))) ((fun _ => (0 : Int32))) ((fun _ => (0 : Int32))) r14 q15) bmX10_52 biX10_begins bsX10_begins bzX10 bcX10_begins rfl hX10_begins (rest := []) rfl (jroom_of rfl) 0 (ci := 8) rfl rfl rfl [0, 2, 3, 4, 5] [1, 6, 7, 8, 9, 10, 11, 12, 13] [9, 0, 10, 11, 12, 13, 1, 2, 3, 4, 5, 6, 7, 8] (wr := [(h1, jB D 200 ((fun _ => (0 : Int32)))), (h6, jI D 9 ((fun _ => (0 : Int32)))), (h7, jI D 240 ((fun _ => (0 : Int32)))), (h8, jI D 18 ((fun _ => (0 : Int32)))), (h9, jI D 9 ((fun _ => (0 : Int32)))), (h10, jB D 262144 ((fun _ => (0 : Int32)))), (h11, jI D 512 ((fun _ => (0 : Int32)))), (h12, jI D 512 ((fun _ => (0 : Int32)))), (h13, jI D 2 ((fun _ => (0 : Int32))))]) (ws2 := [(h_t, .inr (8, [.int ((0 : Int32)), .ref h1, .int ((0 : Int32)), .ref h2, .ref h3, .ref h4, .ref h5, .ref h6, .int ((0 : Int32)), .ref h7, .int ((0 : Int32)), .int ((0 : Int32)), .int ((0 : Int32)), .ref h8, .ref h9, .int ((0 : Int32)), .ref h10, .ref h11, .ref h12, .int ((0 : Int32)), .ref h13])), (h1, jB D 200 ((fun _ => (0 : Int32)))), (h2, jI D 8 r14.1), (h3, jZ D 32 r14.2.1), (h4, jI D 4 r14.2.2.1), (h5, jI D 18 r14.2.2.2), (h6, jI D 9 ((fun _ => (0 : Int32)))), (h7, jI D 240 ((fun _ => (0 : Int32)))), (h8, jI D 18 ((fun _ => (0 : Int32)))), (h9, jI D 9 ((fun _ => (0 : Int32)))), (h10, jB D 262144 ((fun _ => (0 : Int32)))), (h11, jI D 512 ((fun _ => (0 : Int32)))), (h12, jI D 512 ((fun _ => (0 : Int32)))), (h13, jI D 2 ((fun _ => (0 : Int32))))]) rfl rfl rfl rfl rfl (Nat.le_of_ble_eq_true rfl) dX10_init_111 ?_
  refine j_aload_n C dX10_init_114 rfl 0 rfl ?_
  obtain ⟨r16, q17, h⟩ := jl_bind h
  refine j_cV0 C (mX10_takes (jlaunch X) D F h_t h1 h2 h3 h4 h5 h6 h7 h8 h9 h10 h11 h12 h13 ((0 : Int32)) ((0 : Int32)) ((0 : Int32)) ((0 : Int32)) ((0 : Int32)) ((0 : Int32)) ((0 : Int32)) ((0 : Int32)) r14.1 r14.2.1 r14.2.2.1 r14.2.2.2 ((fun _ => (0 : Int32))) ((fun _ => (0 : Int32))) r16 q17) bmX10_55 biX10_takes bsX10_takes bzX10 bcX10_takes rfl hX10_takes (rest := []) rfl (jroom_of rfl) 0 (ci := 8) rfl rfl rfl [0, 2, 3, 4, 5, 6, 7] [1, 8, 9, 10, 11, 12, 13] [7, 0, 8, 9, 10, 11, 12, 13, 1, 2, 3, 4, 5, 6] (wr := [(h1, jB D 200 ((fun _ => (0 : Int32)))), (h8, jI D 18 ((fun _ => (0 : Int32)))), (h9, jI D 9 ((fun _ => (0 : Int32)))), (h10, jB D 262144 ((fun _ => (0 : Int32)))), (h11, jI D 512 ((fun _ => (0 : Int32)))), (h12, jI D 512 ((fun _ => (0 : Int32)))), (h13, jI D 2 ((fun _ => (0 : Int32))))]) (ws2 := [(h_t, .inr (8, [.int ((0 : Int32)), .ref h1, .int ((0 : Int32)), .ref h2, .ref h3, .ref h4, .ref h5, .ref h6, .int r16.1, .ref h7, .int r16.2.1, .int r16.2.2.1, .int r16.2.2.2.1, .ref h8, .ref h9, .int ((0 : Int32)), .ref h10, .ref h11, .ref h12, .int ((0 : Int32)), .ref h13])), (h1, jB D 200 ((fun _ => (0 : Int32)))), (h2, jI D 8 r16.2.2.2.2.1), (h3, jZ D 32 r16.2.2.2.2.2.1), (h4, jI D 4 r16.2.2.2.2.2.2.1), (h5, jI D 18 r16.2.2.2.2.2.2.2.1), (h6, jI D 9 r16.2.2.2.2.2.2.2.2.1), (h7, jI D 240 r16.2.2.2.2.2.2.2.2.2), (h8, jI D 18 ((fun _ => (0 : Int32)))), (h9, jI D 9 ((fun _ => (0 : Int32)))), (h10, jB D 262144 ((fun _ => (0 : Int32)))), (h11, jI D 512 ((fun _ => (0 : Int32)))), (h12, jI D 512 ((fun _ => (0 : Int32)))), (h13, jI D 2 ((fun _ => (0 : Int32))))]) rfl rfl rfl rfl rfl (Nat.le_of_ble_eq_true rfl) dX10_init_115 ?_
  obtain rfl := jl_some h
  exact j_vret C (E _ _ rfl rfl) (h1, h2, h3, h4, h5, h6, h7, h8, h9, h10, h11, h12, h13) rfl rfl dX10_init_118
theorem dX10_in_0 : decode cX10_in 0 = .ok (.lload_n 0, 1) := by decide +kernel
theorem dX10_in_1 : decode cX10_in 1 = .ok (.lload_n 2, 1) := by decide +kernel
theorem dX10_in_2 : decode cX10_in 2 = .ok (.lcmp, 1) := by decide +kernel
theorem dX10_in_3 : decode cX10_in 3 = .ok (.ifCond .lt 14, 3) := by decide +kernel
theorem dX10_in_6 : decode cX10_in 6 = .ok (.lload_n 0, 1) := by decide +kernel
theorem dX10_in_7 : decode cX10_in 7 = .ok (.lload 4, 2) := by decide +kernel
theorem dX10_in_9 : decode cX10_in 9 = .ok (.lcmp, 1) := by decide +kernel
theorem dX10_in_10 : decode cX10_in 10 = .ok (.ifCond .gt 7, 3) := by decide +kernel
theorem dX10_in_13 : decode cX10_in 13 = .ok (.iconst 1, 1) := by decide +kernel
theorem dX10_in_14 : decode cX10_in 14 = .ok (.goto 4, 3) := by decide +kernel
theorem dX10_in_17 : decode cX10_in 17 = .ok (.iconst 0, 1) := by decide +kernel
theorem dX10_in_18 : decode cX10_in 18 = .ok (.ireturn, 1) := by decide +kernel
def fX10_in (p0 : Int64) (p2 : Int64) (p4 : Int64) : Option (Int32) :=
(if (lg_cmp p0 p2) < 0 then
(some ((0 : Int32)))
else
(if 0 < (lg_cmp p0 p4) then
(some ((0 : Int32)))
else
(some ((1 : Int32)))))
def oX10_in (D : jv_D)  (r : Int32) : va_W := []
set_option maxHeartbeats 40000000 in
set_option maxRecDepth 100000 in
theorem mX10_in (l : Launch) (D : jv_D) (p0 : Int64) (p2 : Int64) (p4 : Int64) (r : Int32) (h : fX10_in p0 p2 p4 = some r) : MM l yX10_in (jW yX10_in cX10_in 6 (some .boolean)) ({ frames := 0, cells := 0, slots := 0, locals := 0 }) D [.long p0, .long p2, .long p4] [] (some (.int r)) (oX10_in D  r) := by
  refine mn_of hpX10_in (Nat.le_of_ble_eq_true rfl) ?_
  intro X hXl C E0 hN
  subst hXl
  replace C : JC D X 6 RX10 cX10_in ({ frames := 0, cells := 0, slots := 0, locals := 0 }) := C
  have E : JE D X 0 0 (some .boolean) (fun _ : Unit => (some (.int r))) (fun _ : Unit => (oX10_in D  r)) := E0 0 0 rfl rfl
  clear E0 hN
  show JJ D X 6 0 0 0 [(0, .long p0), (2, .long p2), (4, .long p4)] [] []
  unfold fX10_in at h
  refine j_lload_n C dX10_in_0 rfl 0 rfl ?_
  refine j_lload_n C dX10_in_1 rfl 1 rfl ?_
  refine j_lcmp C dX10_in_2 ?_
  refine j_if_lt C (tgt := 17) dX10_in_3 (by decide) h (fun c1 h => ?_) (fun c1 h => ?_)
  · refine j_iconst C dX10_in_17 (v := (0 : Int32)) (by decide) ?_
    exact j_zretR C (r := r) (rtf := fun r => (some (.int r))) (wff := fun r => (oX10_in D  r)) E rfl h rfl rfl dX10_in_18
  · refine j_lload_n C dX10_in_6 rfl 0 rfl ?_
    refine j_lload C dX10_in_7 2 rfl ?_
    refine j_lcmp C dX10_in_9 ?_
    refine j_if_gt C (tgt := 17) dX10_in_10 (by decide) h (fun c2 h => ?_) (fun c2 h => ?_)
    · refine j_iconst C dX10_in_17 (v := (0 : Int32)) (by decide) ?_
      exact j_zretR C (r := r) (rtf := fun r => (some (.int r))) (wff := fun r => (oX10_in D  r)) E rfl h rfl rfl dX10_in_18
    · refine j_iconst C dX10_in_13 (v := (1 : Int32)) (by decide) ?_
      refine j_goto C dX10_in_14 (tgt := 18) (by decide) ?_
      exact j_zretR C (r := r) (rtf := fun r => (some (.int r))) (wff := fun r => (oX10_in D  r)) E rfl h rfl rfl dX10_in_18
theorem dX10_write_0 : decode cX10_write 0 = .ok (.iload_n 1, 1) := by decide +kernel
theorem dX10_write_1 : decode cX10_write 1 = .ok (.i2l, 1) := by decide +kernel
theorem dX10_write_2 : decode cX10_write 2 = .ok (.lconst 1, 1) := by decide +kernel
theorem dX10_write_3 : decode cX10_write 3 = .ok (.ldc2_w 58, 3) := by decide +kernel
theorem dX10_write_6 : decode cX10_write 6 = .ok (.invokestatic 60, 3) := by decide +kernel
theorem dX10_write_9 : decode cX10_write 9 = .ok (.ifCond .ne 5, 3) := by decide +kernel
theorem dX10_write_12 : decode cX10_write 12 = .ok (.iconst (-1), 1) := by decide +kernel
theorem dX10_write_13 : decode cX10_write 13 = .ok (.ireturn, 1) := by decide +kernel
theorem dX10_write_14 : decode cX10_write 14 = .ok (.aload_n 0, 1) := by decide +kernel
theorem dX10_write_15 : decode cX10_write 15 = .ok (.getfield 64, 3) := by decide +kernel
theorem dX10_write_18 : decode cX10_write 18 = .ok (.iload_n 1, 1) := by decide +kernel
theorem dX10_write_19 : decode cX10_write 19 = .ok (.iadd, 1) := by decide +kernel
theorem dX10_write_20 : decode cX10_write 20 = .ok (.sipush 200, 3) := by decide +kernel
theorem dX10_write_23 : decode cX10_write 23 = .ok (.if_icmp .le 6, 3) := by decide +kernel
theorem dX10_write_26 : decode cX10_write 26 = .ok (.bipush (-3), 2) := by decide +kernel
theorem dX10_write_28 : decode cX10_write 28 = .ok (.ireturn, 1) := by decide +kernel
theorem dX10_write_29 : decode cX10_write 29 = .ok (.iload_n 1, 1) := by decide +kernel
theorem dX10_write_30 : decode cX10_write 30 = .ok (.iconst 1, 1) := by decide +kernel
theorem dX10_write_31 : decode cX10_write 31 = .ok (.isub, 1) := by decide +kernel
theorem dX10_write_32 : decode cX10_write 32 = .ok (.istore 4, 2) := by decide +kernel
theorem dX10_write_34 : decode cX10_write 34 = .ok (.iload 4, 2) := by decide +kernel
theorem dX10_write_36 : decode cX10_write 36 = .ok (.ifCond .lt 37, 3) := by decide +kernel
theorem dX10_write_39 : decode cX10_write 39 = .ok (.aload_n 0, 1) := by decide +kernel
theorem dX10_write_40 : decode cX10_write 40 = .ok (.getfield 7, 3) := by decide +kernel
theorem dX10_write_43 : decode cX10_write 43 = .ok (.aload_n 0, 1) := by decide +kernel
theorem dX10_write_44 : decode cX10_write 44 = .ok (.getfield 64, 3) := by decide +kernel
theorem dX10_write_47 : decode cX10_write 47 = .ok (.lload_n 2, 1) := by decide +kernel
theorem dX10_write_48 : decode cX10_write 48 = .ok (.bipush 8, 2) := by decide +kernel
theorem dX10_write_50 : decode cX10_write 50 = .ok (.iload 4, 2) := by decide +kernel
theorem dX10_write_52 : decode cX10_write 52 = .ok (.imul, 1) := by decide +kernel
theorem dX10_write_53 : decode cX10_write 53 = .ok (.lshr, 1) := by decide +kernel
theorem dX10_write_54 : decode cX10_write 54 = .ok (.l2i, 1) := by decide +kernel
theorem dX10_write_55 : decode cX10_write 55 = .ok (.i2b, 1) := by decide +kernel
theorem dX10_write_56 : decode cX10_write 56 = .ok (.bastore, 1) := by decide +kernel
theorem dX10_write_57 : decode cX10_write 57 = .ok (.aload_n 0, 1) := by decide +kernel
theorem dX10_write_58 : decode cX10_write 58 = .ok (.dup, 1) := by decide +kernel
theorem dX10_write_59 : decode cX10_write 59 = .ok (.getfield 64, 3) := by decide +kernel
theorem dX10_write_62 : decode cX10_write 62 = .ok (.iconst 1, 1) := by decide +kernel
theorem dX10_write_63 : decode cX10_write 63 = .ok (.iadd, 1) := by decide +kernel
theorem dX10_write_64 : decode cX10_write 64 = .ok (.putfield 64, 3) := by decide +kernel
theorem dX10_write_67 : decode cX10_write 67 = .ok (.iinc 4 (-1), 3) := by decide +kernel
theorem dX10_write_70 : decode cX10_write 70 = .ok (.goto (-36), 3) := by decide +kernel
theorem dX10_write_73 : decode cX10_write 73 = .ok (.aload_n 0, 1) := by decide +kernel
theorem dX10_write_74 : decode cX10_write 74 = .ok (.getfield 64, 3) := by decide +kernel
theorem dX10_write_77 : decode cX10_write 77 = .ok (.ireturn, 1) := by decide +kernel
def bX10_write_34 (F : Nat) (p1 : Int32) (p2 : Int64)  (k34 : Int32 → Int32 → (Nat → Int32) → Option (Int32 × Int32 × (Nat → Int32))) (x6 : Int32) (m_t_length_7 : Int32) (m_t_text__8 : Nat → Int32) : Option (Int32 × Int32 × (Nat → Int32)) :=
(if x6 < 0 then
(some (m_t_length_7, m_t_length_7, m_t_text__8))
else
(if m_t_length_7 < 0 ∨ 200 ≤ m_t_length_7.toNatClampNeg then none else
(jl_let (upd m_t_text__8 m_t_length_7.toNatClampNeg (vp_nar .byte (((p2 >>> ((((8 : Int32)) * x6).toInt64 &&& 63)).toInt32).toInt8.toInt32))) fun g11 =>
(jl_let (m_t_length_7 + ((1 : Int32))) fun w12 =>
(jl_let (x6 + Int32.ofInt (-1)) fun v13 =>
(k34 v13 w12 g11))))))
def lX10_write_34 (F : Nat) (p1 : Int32) (p2 : Int64)  (F2 : Nat) (x6 : Int32) (m_t_length_7 : Int32) (m_t_text__8 : Nat → Int32) : Option (Int32 × Int32 × (Nat → Int32)) := jl_loop3 (bX10_write_34 F p1 p2 ) F2 x6 m_t_length_7 m_t_text__8
def fX10_write (F : Nat) (t_length : Int32) (t_text_ : Nat → Int32) (p1 : Int32) (p2 : Int64) : Option (Int32 × Int32 × (Nat → Int32)) :=
((fX10_in p1.toInt64 ((1 : Int64)) ((8 : Int64))).bind fun r1 =>
(if r1 = 0 then
(some ((-1 : Int32), t_length, t_text_))
else
(if (t_length + p1) ≤ ((200 : Int32)) then
(jl_let (p1 - ((1 : Int32))) fun v5 =>
(lX10_write_34 F p1 p2 F v5 t_length t_text_))
else
(some ((-3 : Int32), t_length, t_text_)))))
def oX10_write (D : jv_D) (h_t : Nat) (h_t_text : Nat) (h_t_told : Nat) (h_t_touches : Nat) (h_t_has : Nat) (h_t_old : Nat) (h_t_beside : Nat) (h_t_slot : Nat) (h_t_row : Nat) (h_t_free : Nat) (h_t_worth : Nat) (h_t_fore : Nat) (h_t_back : Nat) (h_t_got : Nat) (t_at : Int32) (t_stones : Int32) (t_kept : Int32) (t_done : Int32) (t_rows : Int32) (t_frees : Int32) (t_fewest : Int32) (r : Int32 × Int32 × (Nat → Int32)) : va_W := [(h_t, .inr (8, [.int r.2.1, .ref h_t_text, .int t_at, .ref h_t_told, .ref h_t_touches, .ref h_t_has, .ref h_t_old, .ref h_t_beside, .int t_stones, .ref h_t_slot, .int t_kept, .int t_done, .int t_rows, .ref h_t_row, .ref h_t_free, .int t_frees, .ref h_t_worth, .ref h_t_fore, .ref h_t_back, .int t_fewest, .ref h_t_got])), (h_t_text, jB D 200 r.2.2)]
set_option maxHeartbeats 40000000 in
set_option maxRecDepth 100000 in
theorem mX10_write (l : Launch) (D : jv_D) (F : Nat) (h_t : Nat) (h_t_text : Nat) (h_t_told : Nat) (h_t_touches : Nat) (h_t_has : Nat) (h_t_old : Nat) (h_t_beside : Nat) (h_t_slot : Nat) (h_t_row : Nat) (h_t_free : Nat) (h_t_worth : Nat) (h_t_fore : Nat) (h_t_back : Nat) (h_t_got : Nat) (t_length : Int32) (t_at : Int32) (t_stones : Int32) (t_kept : Int32) (t_done : Int32) (t_rows : Int32) (t_frees : Int32) (t_fewest : Int32) (t_text_ : Nat → Int32) (p1 : Int32) (p2 : Int64) (r : Int32 × Int32 × (Nat → Int32)) (h : fX10_write F t_length t_text_ p1 p2 = some r) : MM l yX10_write (jW yX10_write cX10_write 5 (some .int)) ({ frames := 1, cells := 0, slots := 0, locals := 25 }) D [.ref h_t, .int p1, .long p2] [(h_t, .inr (8, [.int t_length, .ref h_t_text, .int t_at, .ref h_t_told, .ref h_t_touches, .ref h_t_has, .ref h_t_old, .ref h_t_beside, .int t_stones, .ref h_t_slot, .int t_kept, .int t_done, .int t_rows, .ref h_t_row, .ref h_t_free, .int t_frees, .ref h_t_worth, .ref h_t_fore, .ref h_t_back, .int t_fewest, .ref h_t_got])), (h_t_text, jB D 200 t_text_)] (some (.int r.1)) (oX10_write D h_t h_t_text h_t_told h_t_touches h_t_has h_t_old h_t_beside h_t_slot h_t_row h_t_free h_t_worth h_t_fore h_t_back h_t_got t_at t_stones t_kept t_done t_rows t_frees t_fewest r) := by
  refine mn_of hpX10_write (Nat.le_of_ble_eq_true rfl) ?_
  intro X hXl C E0 hN
  subst hXl
  replace C : JC D X 5 RX10 cX10_write ({ frames := 1, cells := 0, slots := 0, locals := 25 }) := C
  have E : JE D X 0 0 (some .int) (fun _ : Unit => (some (.int r.1))) (fun _ : Unit => (oX10_write D h_t h_t_text h_t_told h_t_touches h_t_has h_t_old h_t_beside h_t_slot h_t_row h_t_free h_t_worth h_t_fore h_t_back h_t_got t_at t_stones t_kept t_done t_rows t_frees t_fewest r)) := E0 0 0 rfl rfl
  clear E0 hN
  show JJ D X 5 0 0 0 [(0, .ref h_t), (1, .int p1), (2, .long p2)] [] [(h_t, .inr (8, [.int t_length, .ref h_t_text, .int t_at, .ref h_t_told, .ref h_t_touches, .ref h_t_has, .ref h_t_old, .ref h_t_beside, .int t_stones, .ref h_t_slot, .int t_kept, .int t_done, .int t_rows, .ref h_t_row, .ref h_t_free, .int t_frees, .ref h_t_worth, .ref h_t_fore, .ref h_t_back, .int t_fewest, .ref h_t_got])), (h_t_text, jB D 200 t_text_)]
  unfold fX10_write at h
  have L34 : ∀ (x6 : Int32) (m_t_length_7 : Int32) (m_t_text__8 : Nat → Int32), lX10_write_34 F p1 p2  F x6 m_t_length_7 m_t_text__8 = some r → JJ D X 5 0 0 34 [(0, .ref h_t), (2, .long p2), (4, .int x6)] [] [(h_t, .inr (8, [.int m_t_length_7, .ref h_t_text, .int t_at, .ref h_t_told, .ref h_t_touches, .ref h_t_has, .ref h_t_old, .ref h_t_beside, .int t_stones, .ref h_t_slot, .int t_kept, .int t_done, .int t_rows, .ref h_t_row, .ref h_t_free, .int t_frees, .ref h_t_worth, .ref h_t_fore, .ref h_t_back, .int t_fewest, .ref h_t_got])), (h_t_text, jB D 200 m_t_text__8)] := by
    intro x6 m_t_length_7 m_t_text__8 h
    refine jl_ind3 (fun x6 m_t_length_7 m_t_text__8 => JJ D X 5 0 0 34 [(0, .ref h_t), (2, .long p2), (4, .int x6)] [] [(h_t, .inr (8, [.int m_t_length_7, .ref h_t_text, .int t_at, .ref h_t_told, .ref h_t_touches, .ref h_t_has, .ref h_t_old, .ref h_t_beside, .int t_stones, .ref h_t_slot, .int t_kept, .int t_done, .int t_rows, .ref h_t_row, .ref h_t_free, .int t_frees, .ref h_t_worth, .ref h_t_fore, .ref h_t_back, .int t_fewest, .ref h_t_got])), (h_t_text, jB D 200 m_t_text__8)]) ?_ F x6 m_t_length_7 m_t_text__8 h
    clear h x6 m_t_length_7 m_t_text__8
    intro k34 i34 x6 m_t_length_7 m_t_text__8 h
    replace i34 : ∀ (x6 : Int32) (m_t_length_7 : Int32) (m_t_text__8 : Nat → Int32), k34 x6 m_t_length_7 m_t_text__8 = some r → JJ D X 5 0 0 34 [(0, .ref h_t), (2, .long p2), (4, .int x6)] [] [(h_t, .inr (8, [.int m_t_length_7, .ref h_t_text, .int t_at, .ref h_t_told, .ref h_t_touches, .ref h_t_has, .ref h_t_old, .ref h_t_beside, .int t_stones, .ref h_t_slot, .int t_kept, .int t_done, .int t_rows, .ref h_t_row, .ref h_t_free, .int t_frees, .ref h_t_worth, .ref h_t_fore, .ref h_t_back, .int t_fewest, .ref h_t_got])), (h_t_text, jB D 200 m_t_text__8)] := i34
    show JJ D X 5 0 0 34 [(0, .ref h_t), (2, .long p2), (4, .int x6)] [] [(h_t, .inr (8, [.int m_t_length_7, .ref h_t_text, .int t_at, .ref h_t_told, .ref h_t_touches, .ref h_t_has, .ref h_t_old, .ref h_t_beside, .int t_stones, .ref h_t_slot, .int t_kept, .int t_done, .int t_rows, .ref h_t_row, .ref h_t_free, .int t_frees, .ref h_t_worth, .ref h_t_fore, .ref h_t_back, .int t_fewest, .ref h_t_got])), (h_t_text, jB D 200 m_t_text__8)]
    unfold bX10_write_34 at h
    refine j_iload C dX10_write_34 2 rfl ?_
    refine j_if_lt C (tgt := 73) dX10_write_36 (by decide) h (fun c9 h => ?_) (fun c9 h => ?_)
    · refine j_aload_n C dX10_write_73 rfl 0 rfl ?_
      refine j_get C ibX10 (ci := 8) 0 rfl rfl 0 (by decide) bfX10_64 (v := .int m_t_length_7) rfl dX10_write_74 ?_
      exact j_iretR C (r := r) (rtf := fun r => (some (.int r.1))) (wff := fun r => (oX10_write D h_t h_t_text h_t_told h_t_touches h_t_has h_t_old h_t_beside h_t_slot h_t_row h_t_free h_t_worth h_t_fore h_t_back h_t_got t_at t_stones t_kept t_done t_rows t_frees t_fewest r)) E h rfl rfl dX10_write_77
    · refine j_aload_n C dX10_write_39 rfl 0 rfl ?_
      refine j_get C ibX10 (ci := 8) 0 rfl rfl 1 (by decide) bfX10_7 (v := .ref h_t_text) rfl dX10_write_40 ?_
      refine j_aload_n C dX10_write_43 rfl 0 rfl ?_
      refine j_get C ibX10 (ci := 8) 0 rfl rfl 0 (by decide) bfX10_64 (v := .int m_t_length_7) rfl dX10_write_44 ?_
      refine j_lload_n C dX10_write_47 rfl 1 rfl ?_
      refine j_bipush C dX10_write_48 (v := (8 : Int32)) (by decide) ?_
      refine j_iload C dX10_write_50 2 rfl ?_
      refine j_imul C dX10_write_52 ?_
      refine j_lshr C dX10_write_53 ?_
      refine j_l2i C dX10_write_54 ?_
      refine j_i2b C dX10_write_55 ?_
      refine jl_inb h (fun b10 h => ?_)
      refine j_bast C 1 rfl b10 dX10_write_56 (ws' := fun g11 => [(h_t, .inr (8, [.int m_t_length_7, .ref h_t_text, .int t_at, .ref h_t_told, .ref h_t_touches, .ref h_t_has, .ref h_t_old, .ref h_t_beside, .int t_stones, .ref h_t_slot, .int t_kept, .int t_done, .int t_rows, .ref h_t_row, .ref h_t_free, .int t_frees, .ref h_t_worth, .ref h_t_fore, .ref h_t_back, .int t_fewest, .ref h_t_got])), (h_t_text, jB D 200 g11)]) (fun _ => rfl) h (fun g11 h => ?_)
      refine j_aload_n C dX10_write_57 rfl 0 rfl ?_
      refine j_dup C dX10_write_58 rfl ?_
      refine j_get C ibX10 (ci := 8) 0 rfl rfl 0 (by decide) bfX10_64 (v := .int m_t_length_7) rfl dX10_write_59 ?_
      refine j_iconst C dX10_write_62 (v := (1 : Int32)) (by decide) ?_
      refine j_iadd C dX10_write_63 ?_
      refine j_nmi h (fun w12 h => ?_)
      refine j_put C ibX10 tyX10 tyX10_ok nmX10 (ci := 8) 0 rfl rfl 0 (by decide) bfX10_64 rfl rfl rfl (Nat.le_of_ble_eq_true rfl) dX10_write_64 (ws' := [(h_t, .inr (8, [.int w12, .ref h_t_text, .int t_at, .ref h_t_told, .ref h_t_touches, .ref h_t_has, .ref h_t_old, .ref h_t_beside, .int t_stones, .ref h_t_slot, .int t_kept, .int t_done, .int t_rows, .ref h_t_row, .ref h_t_free, .int t_frees, .ref h_t_worth, .ref h_t_fore, .ref h_t_back, .int t_fewest, .ref h_t_got])), (h_t_text, jB D 200 g11)]) rfl ?_
      refine j_iinc C dX10_write_67 2 rfl (lv' := fun v13 => [(4, .int v13), (0, .ref h_t), (2, .long p2)]) (by decide) (fun _ => rfl) h (fun v13 h => ?_)
      refine j_goto C dX10_write_70 (tgt := 34) (by decide) ?_
      refine j_sub (lv' := [(0, .ref h_t), (2, .long p2), (4, .int v13)]) [1, 2, 0] rfl ?_
      exact i34 v13 w12 g11 h
  refine j_iload_n C dX10_write_0 rfl 1 rfl ?_
  refine j_i2l C dX10_write_1 ?_
  refine j_lconst C dX10_write_2 (v := (1 : Int64)) (by decide) ?_
  refine j_ldc2_w C bKX10_58 dX10_write_3 ?_
  obtain ⟨r1, q2, h⟩ := jl_bind h
  refine j_cS1 C (mX10_in (jlaunch X) D p1.toInt64 ((1 : Int64)) ((8 : Int64)) r1 q2) bmX10_60 btX10_in bzX10 bcX10_in hX10_in (rest := []) rfl (jroom_of rfl) [] [0, 1] [0, 1] (wr := [(h_t, .inr (8, [.int t_length, .ref h_t_text, .int t_at, .ref h_t_told, .ref h_t_touches, .ref h_t_has, .ref h_t_old, .ref h_t_beside, .int t_stones, .ref h_t_slot, .int t_kept, .int t_done, .int t_rows, .ref h_t_row, .ref h_t_free, .int t_frees, .ref h_t_worth, .ref h_t_fore, .ref h_t_back, .int t_fewest, .ref h_t_got])), (h_t_text, jB D 200 t_text_)]) (ws2 := [(h_t, .inr (8, [.int t_length, .ref h_t_text, .int t_at, .ref h_t_told, .ref h_t_touches, .ref h_t_has, .ref h_t_old, .ref h_t_beside, .int t_stones, .ref h_t_slot, .int t_kept, .int t_done, .int t_rows, .ref h_t_row, .ref h_t_free, .int t_frees, .ref h_t_worth, .ref h_t_fore, .ref h_t_back, .int t_fewest, .ref h_t_got])), (h_t_text, jB D 200 t_text_)]) rfl rfl rfl rfl rfl (Nat.le_of_ble_eq_true rfl) dX10_write_6 ?_
  refine j_if_ne C (tgt := 14) dX10_write_9 (by decide) h (fun c3 h => ?_) (fun c3 h => ?_)
  · refine j_iconst C dX10_write_12 (v := (-1 : Int32)) (by decide) ?_
    exact j_iretR C (r := r) (rtf := fun r => (some (.int r.1))) (wff := fun r => (oX10_write D h_t h_t_text h_t_told h_t_touches h_t_has h_t_old h_t_beside h_t_slot h_t_row h_t_free h_t_worth h_t_fore h_t_back h_t_got t_at t_stones t_kept t_done t_rows t_frees t_fewest r)) E h rfl rfl dX10_write_13
  · refine j_aload_n C dX10_write_14 rfl 0 rfl ?_
    refine j_get C ibX10 (ci := 8) 0 rfl rfl 0 (by decide) bfX10_64 (v := .int t_length) rfl dX10_write_15 ?_
    refine j_iload_n C dX10_write_18 rfl 1 rfl ?_
    refine j_iadd C dX10_write_19 ?_
    refine j_sipush C dX10_write_20 (v := (200 : Int32)) (by decide) ?_
    refine j_icmp_le C (tgt := 29) dX10_write_23 (by decide) h (fun c4 h => ?_) (fun c4 h => ?_)
    · refine j_iload_n C dX10_write_29 rfl 1 rfl ?_
      refine j_iconst C dX10_write_30 (v := (1 : Int32)) (by decide) ?_
      refine j_isub C dX10_write_31 ?_
      refine j_istore C dX10_write_32 (lv' := fun v5 => [(4, .int v5), (0, .ref h_t), (1, .int p1), (2, .long p2)]) (by decide) (fun _ => rfl) h (fun v5 h => ?_)
      refine j_sub (lv' := [(0, .ref h_t), (2, .long p2), (4, .int v5)]) [1, 3, 0] rfl ?_
      exact L34 v5 t_length t_text_ h
    · refine j_bipush C dX10_write_26 (v := (-3 : Int32)) (by decide) ?_
      exact j_iretR C (r := r) (rtf := fun r => (some (.int r.1))) (wff := fun r => (oX10_write D h_t h_t_text h_t_told h_t_touches h_t_has h_t_old h_t_beside h_t_slot h_t_row h_t_free h_t_worth h_t_fore h_t_back h_t_got t_at t_stones t_kept t_done t_rows t_frees t_fewest r)) E h rfl rfl dX10_write_28
theorem dX10_wipe_0 : decode cX10_wipe 0 = .ok (.aload_n 0, 1) := by decide +kernel
theorem dX10_wipe_1 : decode cX10_wipe 1 = .ok (.getfield 64, 3) := by decide +kernel
theorem dX10_wipe_4 : decode cX10_wipe 4 = .ok (.istore_n 1, 1) := by decide +kernel
theorem dX10_wipe_5 : decode cX10_wipe 5 = .ok (.aload_n 0, 1) := by decide +kernel
theorem dX10_wipe_6 : decode cX10_wipe 6 = .ok (.iconst 0, 1) := by decide +kernel
theorem dX10_wipe_7 : decode cX10_wipe 7 = .ok (.putfield 64, 3) := by decide +kernel
theorem dX10_wipe_10 : decode cX10_wipe 10 = .ok (.iload_n 1, 1) := by decide +kernel
theorem dX10_wipe_11 : decode cX10_wipe 11 = .ok (.ireturn, 1) := by decide +kernel
def fX10_wipe (t_length : Int32) : Option (Int32 × Int32) :=
(some (t_length, (0 : Int32)))
def oX10_wipe (D : jv_D) (h_t : Nat) (h_t_text : Nat) (h_t_told : Nat) (h_t_touches : Nat) (h_t_has : Nat) (h_t_old : Nat) (h_t_beside : Nat) (h_t_slot : Nat) (h_t_row : Nat) (h_t_free : Nat) (h_t_worth : Nat) (h_t_fore : Nat) (h_t_back : Nat) (h_t_got : Nat) (t_at : Int32) (t_stones : Int32) (t_kept : Int32) (t_done : Int32) (t_rows : Int32) (t_frees : Int32) (t_fewest : Int32) (r : Int32 × Int32) : va_W := [(h_t, .inr (8, [.int r.2, .ref h_t_text, .int t_at, .ref h_t_told, .ref h_t_touches, .ref h_t_has, .ref h_t_old, .ref h_t_beside, .int t_stones, .ref h_t_slot, .int t_kept, .int t_done, .int t_rows, .ref h_t_row, .ref h_t_free, .int t_frees, .ref h_t_worth, .ref h_t_fore, .ref h_t_back, .int t_fewest, .ref h_t_got]))]
set_option maxHeartbeats 40000000 in
set_option maxRecDepth 100000 in
theorem mX10_wipe (l : Launch) (D : jv_D) (h_t : Nat) (h_t_text : Nat) (h_t_told : Nat) (h_t_touches : Nat) (h_t_has : Nat) (h_t_old : Nat) (h_t_beside : Nat) (h_t_slot : Nat) (h_t_row : Nat) (h_t_free : Nat) (h_t_worth : Nat) (h_t_fore : Nat) (h_t_back : Nat) (h_t_got : Nat) (t_length : Int32) (t_at : Int32) (t_stones : Int32) (t_kept : Int32) (t_done : Int32) (t_rows : Int32) (t_frees : Int32) (t_fewest : Int32) (r : Int32 × Int32) (h : fX10_wipe t_length = some r) : MM l yX10_wipe (jW yX10_wipe cX10_wipe 2 (some .int)) ({ frames := 0, cells := 0, slots := 0, locals := 0 }) D [.ref h_t] [(h_t, .inr (8, [.int t_length, .ref h_t_text, .int t_at, .ref h_t_told, .ref h_t_touches, .ref h_t_has, .ref h_t_old, .ref h_t_beside, .int t_stones, .ref h_t_slot, .int t_kept, .int t_done, .int t_rows, .ref h_t_row, .ref h_t_free, .int t_frees, .ref h_t_worth, .ref h_t_fore, .ref h_t_back, .int t_fewest, .ref h_t_got]))] (some (.int r.1)) (oX10_wipe D h_t h_t_text h_t_told h_t_touches h_t_has h_t_old h_t_beside h_t_slot h_t_row h_t_free h_t_worth h_t_fore h_t_back h_t_got t_at t_stones t_kept t_done t_rows t_frees t_fewest r) := by
  refine mn_of hpX10_wipe (Nat.le_of_ble_eq_true rfl) ?_
  intro X hXl C E0 hN
  subst hXl
  replace C : JC D X 2 RX10 cX10_wipe ({ frames := 0, cells := 0, slots := 0, locals := 0 }) := C
  have E : JE D X 0 0 (some .int) (fun _ : Unit => (some (.int r.1))) (fun _ : Unit => (oX10_wipe D h_t h_t_text h_t_told h_t_touches h_t_has h_t_old h_t_beside h_t_slot h_t_row h_t_free h_t_worth h_t_fore h_t_back h_t_got t_at t_stones t_kept t_done t_rows t_frees t_fewest r)) := E0 0 0 rfl rfl
  clear E0 hN
  show JJ D X 2 0 0 0 [(0, .ref h_t)] [] [(h_t, .inr (8, [.int t_length, .ref h_t_text, .int t_at, .ref h_t_told, .ref h_t_touches, .ref h_t_has, .ref h_t_old, .ref h_t_beside, .int t_stones, .ref h_t_slot, .int t_kept, .int t_done, .int t_rows, .ref h_t_row, .ref h_t_free, .int t_frees, .ref h_t_worth, .ref h_t_fore, .ref h_t_back, .int t_fewest, .ref h_t_got]))]
  unfold fX10_wipe at h
  refine j_aload_n C dX10_wipe_0 rfl 0 rfl ?_
  refine j_get C ibX10 (ci := 8) 0 rfl rfl 0 (by decide) bfX10_64 (v := .int t_length) rfl dX10_wipe_1 ?_
  refine j_istore_nC C dX10_wipe_4 rfl (lv' := [(1, .int t_length), (0, .ref h_t)]) (by decide) rfl ?_
  refine j_aload_n C dX10_wipe_5 rfl 1 rfl ?_
  refine j_iconst C dX10_wipe_6 (v := (0 : Int32)) (by decide) ?_
  refine j_put C ibX10 tyX10 tyX10_ok nmX10 (ci := 8) 0 rfl rfl 0 (by decide) bfX10_64 rfl rfl rfl (Nat.le_of_ble_eq_true rfl) dX10_wipe_7 (ws' := [(h_t, .inr (8, [.int ((0 : Int32)), .ref h_t_text, .int t_at, .ref h_t_told, .ref h_t_touches, .ref h_t_has, .ref h_t_old, .ref h_t_beside, .int t_stones, .ref h_t_slot, .int t_kept, .int t_done, .int t_rows, .ref h_t_row, .ref h_t_free, .int t_frees, .ref h_t_worth, .ref h_t_fore, .ref h_t_back, .int t_fewest, .ref h_t_got]))]) rfl ?_
  refine j_iload_n C dX10_wipe_10 rfl 0 rfl ?_
  exact j_iretR C (r := r) (rtf := fun r => (some (.int r.1))) (wff := fun r => (oX10_wipe D h_t h_t_text h_t_told h_t_touches h_t_has h_t_old h_t_beside h_t_slot h_t_row h_t_free h_t_worth h_t_fore h_t_back h_t_got t_at t_stones t_kept t_done t_rows t_frees t_fewest r)) E h rfl rfl dX10_wipe_11
theorem dX10_number_0 : decode cX10_number 0 = .ok (.iconst 0, 1) := by decide +kernel
theorem dX10_number_1 : decode cX10_number 1 = .ok (.istore_n 1, 1) := by decide +kernel
theorem dX10_number_2 : decode cX10_number 2 = .ok (.iconst 0, 1) := by decide +kernel
theorem dX10_number_3 : decode cX10_number 3 = .ok (.istore_n 2, 1) := by decide +kernel
theorem dX10_number_4 : decode cX10_number 4 = .ok (.aload_n 0, 1) := by decide +kernel
theorem dX10_number_5 : decode cX10_number 5 = .ok (.getfield 68, 3) := by decide +kernel
theorem dX10_number_8 : decode cX10_number 8 = .ok (.aload_n 0, 1) := by decide +kernel
theorem dX10_number_9 : decode cX10_number 9 = .ok (.getfield 64, 3) := by decide +kernel
theorem dX10_number_12 : decode cX10_number 12 = .ok (.if_icmp .ge 68, 3) := by decide +kernel
theorem dX10_number_15 : decode cX10_number 15 = .ok (.aload_n 0, 1) := by decide +kernel
theorem dX10_number_16 : decode cX10_number 16 = .ok (.getfield 7, 3) := by decide +kernel
theorem dX10_number_19 : decode cX10_number 19 = .ok (.aload_n 0, 1) := by decide +kernel
theorem dX10_number_20 : decode cX10_number 20 = .ok (.getfield 68, 3) := by decide +kernel
theorem dX10_number_23 : decode cX10_number 23 = .ok (.baload, 1) := by decide +kernel
theorem dX10_number_24 : decode cX10_number 24 = .ok (.i2l, 1) := by decide +kernel
theorem dX10_number_25 : decode cX10_number 25 = .ok (.ldc2_w 71, 3) := by decide +kernel
theorem dX10_number_28 : decode cX10_number 28 = .ok (.ldc2_w 73, 3) := by decide +kernel
theorem dX10_number_31 : decode cX10_number 31 = .ok (.invokestatic 60, 3) := by decide +kernel
theorem dX10_number_34 : decode cX10_number 34 = .ok (.ifCond .eq 46, 3) := by decide +kernel
theorem dX10_number_37 : decode cX10_number 37 = .ok (.iload_n 2, 1) := by decide +kernel
theorem dX10_number_38 : decode cX10_number 38 = .ok (.iconst 2, 1) := by decide +kernel
theorem dX10_number_39 : decode cX10_number 39 = .ok (.if_icmp .ge 23, 3) := by decide +kernel
theorem dX10_number_42 : decode cX10_number 42 = .ok (.bipush 10, 2) := by decide +kernel
theorem dX10_number_44 : decode cX10_number 44 = .ok (.iload_n 1, 1) := by decide +kernel
theorem dX10_number_45 : decode cX10_number 45 = .ok (.imul, 1) := by decide +kernel
theorem dX10_number_46 : decode cX10_number 46 = .ok (.aload_n 0, 1) := by decide +kernel
theorem dX10_number_47 : decode cX10_number 47 = .ok (.getfield 7, 3) := by decide +kernel
theorem dX10_number_50 : decode cX10_number 50 = .ok (.aload_n 0, 1) := by decide +kernel
theorem dX10_number_51 : decode cX10_number 51 = .ok (.getfield 68, 3) := by decide +kernel
theorem dX10_number_54 : decode cX10_number 54 = .ok (.baload, 1) := by decide +kernel
theorem dX10_number_55 : decode cX10_number 55 = .ok (.iadd, 1) := by decide +kernel
theorem dX10_number_56 : decode cX10_number 56 = .ok (.bipush 48, 2) := by decide +kernel
theorem dX10_number_58 : decode cX10_number 58 = .ok (.isub, 1) := by decide +kernel
theorem dX10_number_59 : decode cX10_number 59 = .ok (.goto 4, 3) := by decide +kernel
theorem dX10_number_62 : decode cX10_number 62 = .ok (.iload_n 1, 1) := by decide +kernel
theorem dX10_number_63 : decode cX10_number 63 = .ok (.istore_n 1, 1) := by decide +kernel
theorem dX10_number_64 : decode cX10_number 64 = .ok (.iinc 2 1, 3) := by decide +kernel
theorem dX10_number_67 : decode cX10_number 67 = .ok (.aload_n 0, 1) := by decide +kernel
theorem dX10_number_68 : decode cX10_number 68 = .ok (.dup, 1) := by decide +kernel
theorem dX10_number_69 : decode cX10_number 69 = .ok (.getfield 68, 3) := by decide +kernel
theorem dX10_number_72 : decode cX10_number 72 = .ok (.iconst 1, 1) := by decide +kernel
theorem dX10_number_73 : decode cX10_number 73 = .ok (.iadd, 1) := by decide +kernel
theorem dX10_number_74 : decode cX10_number 74 = .ok (.putfield 68, 3) := by decide +kernel
theorem dX10_number_77 : decode cX10_number 77 = .ok (.goto (-73), 3) := by decide +kernel
theorem dX10_number_80 : decode cX10_number 80 = .ok (.iload_n 2, 1) := by decide +kernel
theorem dX10_number_81 : decode cX10_number 81 = .ok (.i2l, 1) := by decide +kernel
theorem dX10_number_82 : decode cX10_number 82 = .ok (.lconst 1, 1) := by decide +kernel
theorem dX10_number_83 : decode cX10_number 83 = .ok (.ldc2_w 75, 3) := by decide +kernel
theorem dX10_number_86 : decode cX10_number 86 = .ok (.invokestatic 60, 3) := by decide +kernel
theorem dX10_number_89 : decode cX10_number 89 = .ok (.ifCond .eq 7, 3) := by decide +kernel
theorem dX10_number_92 : decode cX10_number 92 = .ok (.iload_n 1, 1) := by decide +kernel
theorem dX10_number_93 : decode cX10_number 93 = .ok (.goto 4, 3) := by decide +kernel
theorem dX10_number_96 : decode cX10_number 96 = .ok (.iconst (-1), 1) := by decide +kernel
theorem dX10_number_97 : decode cX10_number 97 = .ok (.ireturn, 1) := by decide +kernel
def fX10_number_80 (F : Nat) (t_length : Int32) (t_text_ : Nat → Int32)  (x5 : Int32) (x6 : Int32) (m_t_at_7 : Int32) : Option (Int32 × Int32) :=
((fX10_in x6.toInt64 ((1 : Int64)) ((2 : Int64))).bind fun r17 =>
(if r17 = 0 then
(some ((-1 : Int32), m_t_at_7))
else
(some (x5, m_t_at_7))))
def fX10_number_63 (F : Nat) (t_length : Int32) (t_text_ : Nat → Int32) (k4 : Int32 → Int32 → Int32 → Option (Int32 × Int32)) (x13 : Int32) (s14 : Int32) (m_t_at_15 : Int32) : Option (Int32 × Int32) :=
(jl_let (x13 + Int32.ofInt (1)) fun v20 =>
(jl_let (m_t_at_15 + ((1 : Int32))) fun w21 =>
(k4 s14 v20 w21)))
def bX10_number_4 (F : Nat) (t_length : Int32) (t_text_ : Nat → Int32)  (k4 : Int32 → Int32 → Int32 → Option (Int32 × Int32)) (x1 : Int32) (x2 : Int32) (m_t_at_3 : Int32) : Option (Int32 × Int32) :=
(if t_length ≤ m_t_at_3 then
(fX10_number_80 F t_length t_text_ x1 x2 m_t_at_3)
else
(if m_t_at_3 < 0 ∨ 200 ≤ m_t_at_3.toNatClampNeg then none else
((fX10_in ((t_text_ m_t_at_3.toNatClampNeg).toInt64) ((48 : Int64)) ((57 : Int64))).bind fun r9 =>
(if r9 = 0 then
(fX10_number_80 F t_length t_text_ x1 x2 m_t_at_3)
else
(if ((2 : Int32)) ≤ x2 then
(fX10_number_63 F t_length t_text_ k4 x2 x1 m_t_at_3)
else
(if m_t_at_3 < 0 ∨ 200 ≤ m_t_at_3.toNatClampNeg then none else
(fX10_number_63 F t_length t_text_ k4 x2 (((((10 : Int32)) * x1) + (t_text_ m_t_at_3.toNatClampNeg)) - ((48 : Int32))) m_t_at_3)))))))
def lX10_number_4 (F : Nat) (t_length : Int32) (t_text_ : Nat → Int32)  (F2 : Nat) (x1 : Int32) (x2 : Int32) (m_t_at_3 : Int32) : Option (Int32 × Int32) := jl_loop3 (bX10_number_4 F t_length t_text_ ) F2 x1 x2 m_t_at_3
def fX10_number (F : Nat) (t_length : Int32) (t_at : Int32) (t_text_ : Nat → Int32) : Option (Int32 × Int32) :=
(lX10_number_4 F t_length t_text_ F ((0 : Int32)) ((0 : Int32)) t_at)
def oX10_number (D : jv_D) (h_t : Nat) (h_t_text : Nat) (h_t_told : Nat) (h_t_touches : Nat) (h_t_has : Nat) (h_t_old : Nat) (h_t_beside : Nat) (h_t_slot : Nat) (h_t_row : Nat) (h_t_free : Nat) (h_t_worth : Nat) (h_t_fore : Nat) (h_t_back : Nat) (h_t_got : Nat) (t_length : Int32) (t_stones : Int32) (t_kept : Int32) (t_done : Int32) (t_rows : Int32) (t_frees : Int32) (t_fewest : Int32) (t_text_ : Nat → Int32) (r : Int32 × Int32) : va_W := [(h_t, .inr (8, [.int t_length, .ref h_t_text, .int r.2, .ref h_t_told, .ref h_t_touches, .ref h_t_has, .ref h_t_old, .ref h_t_beside, .int t_stones, .ref h_t_slot, .int t_kept, .int t_done, .int t_rows, .ref h_t_row, .ref h_t_free, .int t_frees, .ref h_t_worth, .ref h_t_fore, .ref h_t_back, .int t_fewest, .ref h_t_got])), (h_t_text, jB D 200 t_text_)]
set_option maxHeartbeats 40000000 in
set_option maxRecDepth 100000 in
theorem mX10_number (l : Launch) (D : jv_D) (F : Nat) (h_t : Nat) (h_t_text : Nat) (h_t_told : Nat) (h_t_touches : Nat) (h_t_has : Nat) (h_t_old : Nat) (h_t_beside : Nat) (h_t_slot : Nat) (h_t_row : Nat) (h_t_free : Nat) (h_t_worth : Nat) (h_t_fore : Nat) (h_t_back : Nat) (h_t_got : Nat) (t_length : Int32) (t_at : Int32) (t_stones : Int32) (t_kept : Int32) (t_done : Int32) (t_rows : Int32) (t_frees : Int32) (t_fewest : Int32) (t_text_ : Nat → Int32) (r : Int32 × Int32) (h : fX10_number F t_length t_at t_text_ = some r) : MM l yX10_number (jW yX10_number cX10_number 3 (some .int)) ({ frames := 1, cells := 0, slots := 0, locals := 25 }) D [.ref h_t] [(h_t, .inr (8, [.int t_length, .ref h_t_text, .int t_at, .ref h_t_told, .ref h_t_touches, .ref h_t_has, .ref h_t_old, .ref h_t_beside, .int t_stones, .ref h_t_slot, .int t_kept, .int t_done, .int t_rows, .ref h_t_row, .ref h_t_free, .int t_frees, .ref h_t_worth, .ref h_t_fore, .ref h_t_back, .int t_fewest, .ref h_t_got])), (h_t_text, jB D 200 t_text_)] (some (.int r.1)) (oX10_number D h_t h_t_text h_t_told h_t_touches h_t_has h_t_old h_t_beside h_t_slot h_t_row h_t_free h_t_worth h_t_fore h_t_back h_t_got t_length t_stones t_kept t_done t_rows t_frees t_fewest t_text_ r) := by
  refine mn_of hpX10_number (Nat.le_of_ble_eq_true rfl) ?_
  intro X hXl C E0 hN
  subst hXl
  replace C : JC D X 3 RX10 cX10_number ({ frames := 1, cells := 0, slots := 0, locals := 25 }) := C
  have E : JE D X 0 0 (some .int) (fun _ : Unit => (some (.int r.1))) (fun _ : Unit => (oX10_number D h_t h_t_text h_t_told h_t_touches h_t_has h_t_old h_t_beside h_t_slot h_t_row h_t_free h_t_worth h_t_fore h_t_back h_t_got t_length t_stones t_kept t_done t_rows t_frees t_fewest t_text_ r)) := E0 0 0 rfl rfl
  clear E0 hN
  show JJ D X 3 0 0 0 [(0, .ref h_t)] [] [(h_t, .inr (8, [.int t_length, .ref h_t_text, .int t_at, .ref h_t_told, .ref h_t_touches, .ref h_t_has, .ref h_t_old, .ref h_t_beside, .int t_stones, .ref h_t_slot, .int t_kept, .int t_done, .int t_rows, .ref h_t_row, .ref h_t_free, .int t_frees, .ref h_t_worth, .ref h_t_fore, .ref h_t_back, .int t_fewest, .ref h_t_got])), (h_t_text, jB D 200 t_text_)]
  unfold fX10_number at h
  have L80 : ∀ (x5 : Int32) (x6 : Int32) (m_t_at_7 : Int32), fX10_number_80 F t_length t_text_  x5 x6 m_t_at_7 = some r → JJ D X 3 0 0 80 [(1, .int x5), (2, .int x6)] [] [(h_t, .inr (8, [.int t_length, .ref h_t_text, .int m_t_at_7, .ref h_t_told, .ref h_t_touches, .ref h_t_has, .ref h_t_old, .ref h_t_beside, .int t_stones, .ref h_t_slot, .int t_kept, .int t_done, .int t_rows, .ref h_t_row, .ref h_t_free, .int t_frees, .ref h_t_worth, .ref h_t_fore, .ref h_t_back, .int t_fewest, .ref h_t_got])), (h_t_text, jB D 200 t_text_)] := by
    intro x5 x6 m_t_at_7 h
    unfold fX10_number_80 at h
    refine j_iload_n C dX10_number_80 rfl 1 rfl ?_
    refine j_i2l C dX10_number_81 ?_
    refine j_lconst C dX10_number_82 (v := (1 : Int64)) (by decide) ?_
    refine j_ldc2_w C bKX10_75 dX10_number_83 ?_
    obtain ⟨r17, q18, h⟩ := jl_bind h
    refine j_cS1 C (mX10_in (jlaunch X) D x6.toInt64 ((1 : Int64)) ((2 : Int64)) r17 q18) bmX10_60 btX10_in bzX10 bcX10_in hX10_in (rest := []) rfl (jroom_of rfl) [] [0, 1] [0, 1] (wr := [(h_t, .inr (8, [.int t_length, .ref h_t_text, .int m_t_at_7, .ref h_t_told, .ref h_t_touches, .ref h_t_has, .ref h_t_old, .ref h_t_beside, .int t_stones, .ref h_t_slot, .int t_kept, .int t_done, .int t_rows, .ref h_t_row, .ref h_t_free, .int t_frees, .ref h_t_worth, .ref h_t_fore, .ref h_t_back, .int t_fewest, .ref h_t_got])), (h_t_text, jB D 200 t_text_)]) (ws2 := [(h_t, .inr (8, [.int t_length, .ref h_t_text, .int m_t_at_7, .ref h_t_told, .ref h_t_touches, .ref h_t_has, .ref h_t_old, .ref h_t_beside, .int t_stones, .ref h_t_slot, .int t_kept, .int t_done, .int t_rows, .ref h_t_row, .ref h_t_free, .int t_frees, .ref h_t_worth, .ref h_t_fore, .ref h_t_back, .int t_fewest, .ref h_t_got])), (h_t_text, jB D 200 t_text_)]) rfl rfl rfl rfl rfl (Nat.le_of_ble_eq_true rfl) dX10_number_86 ?_
    refine j_if_eq C (tgt := 96) dX10_number_89 (by decide) h (fun c19 h => ?_) (fun c19 h => ?_)
    · refine j_iconst C dX10_number_96 (v := (-1 : Int32)) (by decide) ?_
      exact j_iretR C (r := r) (rtf := fun r => (some (.int r.1))) (wff := fun r => (oX10_number D h_t h_t_text h_t_told h_t_touches h_t_has h_t_old h_t_beside h_t_slot h_t_row h_t_free h_t_worth h_t_fore h_t_back h_t_got t_length t_stones t_kept t_done t_rows t_frees t_fewest t_text_ r)) E h rfl rfl dX10_number_97
    · refine j_iload_n C dX10_number_92 rfl 0 rfl ?_
      refine j_goto C dX10_number_93 (tgt := 97) (by decide) ?_
      exact j_iretR C (r := r) (rtf := fun r => (some (.int r.1))) (wff := fun r => (oX10_number D h_t h_t_text h_t_told h_t_touches h_t_has h_t_old h_t_beside h_t_slot h_t_row h_t_free h_t_worth h_t_fore h_t_back h_t_got t_length t_stones t_kept t_done t_rows t_frees t_fewest t_text_ r)) E h rfl rfl dX10_number_97
  have L4 : ∀ (x1 : Int32) (x2 : Int32) (m_t_at_3 : Int32), lX10_number_4 F t_length t_text_  F x1 x2 m_t_at_3 = some r → JJ D X 3 0 0 4 [(0, .ref h_t), (1, .int x1), (2, .int x2)] [] [(h_t, .inr (8, [.int t_length, .ref h_t_text, .int m_t_at_3, .ref h_t_told, .ref h_t_touches, .ref h_t_has, .ref h_t_old, .ref h_t_beside, .int t_stones, .ref h_t_slot, .int t_kept, .int t_done, .int t_rows, .ref h_t_row, .ref h_t_free, .int t_frees, .ref h_t_worth, .ref h_t_fore, .ref h_t_back, .int t_fewest, .ref h_t_got])), (h_t_text, jB D 200 t_text_)] := by
    intro x1 x2 m_t_at_3 h
    refine jl_ind3 (fun x1 x2 m_t_at_3 => JJ D X 3 0 0 4 [(0, .ref h_t), (1, .int x1), (2, .int x2)] [] [(h_t, .inr (8, [.int t_length, .ref h_t_text, .int m_t_at_3, .ref h_t_told, .ref h_t_touches, .ref h_t_has, .ref h_t_old, .ref h_t_beside, .int t_stones, .ref h_t_slot, .int t_kept, .int t_done, .int t_rows, .ref h_t_row, .ref h_t_free, .int t_frees, .ref h_t_worth, .ref h_t_fore, .ref h_t_back, .int t_fewest, .ref h_t_got])), (h_t_text, jB D 200 t_text_)]) ?_ F x1 x2 m_t_at_3 h
    clear h x1 x2 m_t_at_3
    intro k4 i4 x1 x2 m_t_at_3 h
    replace i4 : ∀ (x1 : Int32) (x2 : Int32) (m_t_at_3 : Int32), k4 x1 x2 m_t_at_3 = some r → JJ D X 3 0 0 4 [(0, .ref h_t), (1, .int x1), (2, .int x2)] [] [(h_t, .inr (8, [.int t_length, .ref h_t_text, .int m_t_at_3, .ref h_t_told, .ref h_t_touches, .ref h_t_has, .ref h_t_old, .ref h_t_beside, .int t_stones, .ref h_t_slot, .int t_kept, .int t_done, .int t_rows, .ref h_t_row, .ref h_t_free, .int t_frees, .ref h_t_worth, .ref h_t_fore, .ref h_t_back, .int t_fewest, .ref h_t_got])), (h_t_text, jB D 200 t_text_)] := i4
    show JJ D X 3 0 0 4 [(0, .ref h_t), (1, .int x1), (2, .int x2)] [] [(h_t, .inr (8, [.int t_length, .ref h_t_text, .int m_t_at_3, .ref h_t_told, .ref h_t_touches, .ref h_t_has, .ref h_t_old, .ref h_t_beside, .int t_stones, .ref h_t_slot, .int t_kept, .int t_done, .int t_rows, .ref h_t_row, .ref h_t_free, .int t_frees, .ref h_t_worth, .ref h_t_fore, .ref h_t_back, .int t_fewest, .ref h_t_got])), (h_t_text, jB D 200 t_text_)]
    unfold bX10_number_4 at h
    have L63 : ∀ (x13 : Int32) (s14 : Int32) (m_t_at_15 : Int32), fX10_number_63 F t_length t_text_ k4 x13 s14 m_t_at_15 = some r → JJ D X 3 0 0 63 [(0, .ref h_t), (2, .int x13)] [.int s14] [(h_t, .inr (8, [.int t_length, .ref h_t_text, .int m_t_at_15, .ref h_t_told, .ref h_t_touches, .ref h_t_has, .ref h_t_old, .ref h_t_beside, .int t_stones, .ref h_t_slot, .int t_kept, .int t_done, .int t_rows, .ref h_t_row, .ref h_t_free, .int t_frees, .ref h_t_worth, .ref h_t_fore, .ref h_t_back, .int t_fewest, .ref h_t_got])), (h_t_text, jB D 200 t_text_)] := by
      intro x13 s14 m_t_at_15 h
      unfold fX10_number_63 at h
      refine j_istore_nC C dX10_number_63 rfl (lv' := [(1, .int s14), (0, .ref h_t), (2, .int x13)]) (by decide) rfl ?_
      refine j_iinc C dX10_number_64 2 rfl (lv' := fun v20 => [(2, .int v20), (1, .int s14), (0, .ref h_t)]) (by decide) (fun _ => rfl) h (fun v20 h => ?_)
      refine j_aload_n C dX10_number_67 rfl 2 rfl ?_
      refine j_dup C dX10_number_68 rfl ?_
      refine j_get C ibX10 (ci := 8) 0 rfl rfl 2 (by decide) bfX10_68 (v := .int m_t_at_15) rfl dX10_number_69 ?_
      refine j_iconst C dX10_number_72 (v := (1 : Int32)) (by decide) ?_
      refine j_iadd C dX10_number_73 ?_
      refine j_nmi h (fun w21 h => ?_)
      refine j_put C ibX10 tyX10 tyX10_ok nmX10 (ci := 8) 0 rfl rfl 2 (by decide) bfX10_68 rfl rfl rfl (Nat.le_of_ble_eq_true rfl) dX10_number_74 (ws' := [(h_t, .inr (8, [.int t_length, .ref h_t_text, .int w21, .ref h_t_told, .ref h_t_touches, .ref h_t_has, .ref h_t_old, .ref h_t_beside, .int t_stones, .ref h_t_slot, .int t_kept, .int t_done, .int t_rows, .ref h_t_row, .ref h_t_free, .int t_frees, .ref h_t_worth, .ref h_t_fore, .ref h_t_back, .int t_fewest, .ref h_t_got])), (h_t_text, jB D 200 t_text_)]) rfl ?_
      refine j_goto C dX10_number_77 (tgt := 4) (by decide) ?_
      refine j_sub (lv' := [(0, .ref h_t), (1, .int s14), (2, .int v20)]) [2, 1, 0] rfl ?_
      exact i4 s14 v20 w21 h
    refine j_aload_n C dX10_number_4 rfl 0 rfl ?_
    refine j_get C ibX10 (ci := 8) 0 rfl rfl 2 (by decide) bfX10_68 (v := .int m_t_at_3) rfl dX10_number_5 ?_
    refine j_aload_n C dX10_number_8 rfl 0 rfl ?_
    refine j_get C ibX10 (ci := 8) 0 rfl rfl 0 (by decide) bfX10_64 (v := .int t_length) rfl dX10_number_9 ?_
    refine j_icmp_ge C (tgt := 80) dX10_number_12 (by decide) h (fun c4 h => ?_) (fun c4 h => ?_)
    · refine j_sub (lv' := [(1, .int x1), (2, .int x2)]) [1, 2] rfl ?_
      exact L80 x1 x2 m_t_at_3 h
    · refine j_aload_n C dX10_number_15 rfl 0 rfl ?_
      refine j_get C ibX10 (ci := 8) 0 rfl rfl 1 (by decide) bfX10_7 (v := .ref h_t_text) rfl dX10_number_16 ?_
      refine j_aload_n C dX10_number_19 rfl 0 rfl ?_
      refine j_get C ibX10 (ci := 8) 0 rfl rfl 2 (by decide) bfX10_68 (v := .int m_t_at_3) rfl dX10_number_20 ?_
      refine jl_inb h (fun b8 h => ?_)
      refine j_bald C 1 rfl b8 dX10_number_23 ?_
      refine j_i2l C dX10_number_24 ?_
      refine j_ldc2_w C bKX10_71 dX10_number_25 ?_
      refine j_ldc2_w C bKX10_73 dX10_number_28 ?_
      obtain ⟨r9, q10, h⟩ := jl_bind h
      refine j_cS1 C (mX10_in (jlaunch X) D ((t_text_ m_t_at_3.toNatClampNeg).toInt64) ((48 : Int64)) ((57 : Int64)) r9 q10) bmX10_60 btX10_in bzX10 bcX10_in hX10_in (rest := []) rfl (jroom_of rfl) [] [0, 1] [0, 1] (wr := [(h_t, .inr (8, [.int t_length, .ref h_t_text, .int m_t_at_3, .ref h_t_told, .ref h_t_touches, .ref h_t_has, .ref h_t_old, .ref h_t_beside, .int t_stones, .ref h_t_slot, .int t_kept, .int t_done, .int t_rows, .ref h_t_row, .ref h_t_free, .int t_frees, .ref h_t_worth, .ref h_t_fore, .ref h_t_back, .int t_fewest, .ref h_t_got])), (h_t_text, jB D 200 t_text_)]) (ws2 := [(h_t, .inr (8, [.int t_length, .ref h_t_text, .int m_t_at_3, .ref h_t_told, .ref h_t_touches, .ref h_t_has, .ref h_t_old, .ref h_t_beside, .int t_stones, .ref h_t_slot, .int t_kept, .int t_done, .int t_rows, .ref h_t_row, .ref h_t_free, .int t_frees, .ref h_t_worth, .ref h_t_fore, .ref h_t_back, .int t_fewest, .ref h_t_got])), (h_t_text, jB D 200 t_text_)]) rfl rfl rfl rfl rfl (Nat.le_of_ble_eq_true rfl) dX10_number_31 ?_
      refine j_if_eq C (tgt := 80) dX10_number_34 (by decide) h (fun c11 h => ?_) (fun c11 h => ?_)
      · refine j_sub (lv' := [(1, .int x1), (2, .int x2)]) [1, 2] rfl ?_
        exact L80 x1 x2 m_t_at_3 h
      · refine j_iload_n C dX10_number_37 rfl 2 rfl ?_
        refine j_iconst C dX10_number_38 (v := (2 : Int32)) (by decide) ?_
        refine j_icmp_ge C (tgt := 62) dX10_number_39 (by decide) h (fun c12 h => ?_) (fun c12 h => ?_)
        · refine j_iload_n C dX10_number_62 rfl 1 rfl ?_
          refine j_sub (lv' := [(0, .ref h_t), (2, .int x2)]) [0, 2] rfl ?_
          exact L63 x2 x1 m_t_at_3 h
        · refine j_bipush C dX10_number_42 (v := (10 : Int32)) (by decide) ?_
          refine j_iload_n C dX10_number_44 rfl 1 rfl ?_
          refine j_imul C dX10_number_45 ?_
          refine j_aload_n C dX10_number_46 rfl 0 rfl ?_
          refine j_get C ibX10 (ci := 8) 0 rfl rfl 1 (by decide) bfX10_7 (v := .ref h_t_text) rfl dX10_number_47 ?_
          refine j_aload_n C dX10_number_50 rfl 0 rfl ?_
          refine j_get C ibX10 (ci := 8) 0 rfl rfl 2 (by decide) bfX10_68 (v := .int m_t_at_3) rfl dX10_number_51 ?_
          refine jl_inb h (fun b16 h => ?_)
          refine j_bald C 1 rfl b16 dX10_number_54 ?_
          refine j_iadd C dX10_number_55 ?_
          refine j_bipush C dX10_number_56 (v := (48 : Int32)) (by decide) ?_
          refine j_isub C dX10_number_58 ?_
          refine j_goto C dX10_number_59 (tgt := 63) (by decide) ?_
          refine j_sub (lv' := [(0, .ref h_t), (2, .int x2)]) [0, 2] rfl ?_
          exact L63 x2 (((((10 : Int32)) * x1) + (t_text_ m_t_at_3.toNatClampNeg)) - ((48 : Int32))) m_t_at_3 h
  refine j_iconst C dX10_number_0 (v := (0 : Int32)) (by decide) ?_
  refine j_istore_nC C dX10_number_1 rfl (lv' := [(1, .int ((0 : Int32))), (0, .ref h_t)]) (by decide) rfl ?_
  refine j_iconst C dX10_number_2 (v := (0 : Int32)) (by decide) ?_
  refine j_istore_nC C dX10_number_3 rfl (lv' := [(2, .int ((0 : Int32))), (1, .int ((0 : Int32))), (0, .ref h_t)]) (by decide) rfl ?_
  refine j_sub (lv' := [(0, .ref h_t), (1, .int ((0 : Int32))), (2, .int ((0 : Int32)))]) [2, 1, 0] rfl ?_
  exact L4 ((0 : Int32)) ((0 : Int32)) t_at h
theorem dX10_numbers_0 : decode cX10_numbers 0 = .ok (.iload_n 0, 1) := by decide +kernel
theorem dX10_numbers_1 : decode cX10_numbers 1 = .ok (.bipush 114, 2) := by decide +kernel
theorem dX10_numbers_3 : decode cX10_numbers 3 = .ok (.if_icmp .eq 27, 3) := by decide +kernel
theorem dX10_numbers_6 : decode cX10_numbers 6 = .ok (.iload_n 0, 1) := by decide +kernel
theorem dX10_numbers_7 : decode cX10_numbers 7 = .ok (.bipush 120, 2) := by decide +kernel
theorem dX10_numbers_9 : decode cX10_numbers 9 = .ok (.if_icmp .eq 21, 3) := by decide +kernel
theorem dX10_numbers_12 : decode cX10_numbers 12 = .ok (.iload_n 0, 1) := by decide +kernel
theorem dX10_numbers_13 : decode cX10_numbers 13 = .ok (.bipush 109, 2) := by decide +kernel
theorem dX10_numbers_15 : decode cX10_numbers 15 = .ok (.if_icmp .eq 15, 3) := by decide +kernel
theorem dX10_numbers_18 : decode cX10_numbers 18 = .ok (.iload_n 0, 1) := by decide +kernel
theorem dX10_numbers_19 : decode cX10_numbers 19 = .ok (.bipush 104, 2) := by decide +kernel
theorem dX10_numbers_21 : decode cX10_numbers 21 = .ok (.if_icmp .eq 9, 3) := by decide +kernel
theorem dX10_numbers_24 : decode cX10_numbers 24 = .ok (.iload_n 0, 1) := by decide +kernel
theorem dX10_numbers_25 : decode cX10_numbers 25 = .ok (.bipush 97, 2) := by decide +kernel
theorem dX10_numbers_27 : decode cX10_numbers 27 = .ok (.if_icmp .ne 7, 3) := by decide +kernel
theorem dX10_numbers_30 : decode cX10_numbers 30 = .ok (.iconst 2, 1) := by decide +kernel
theorem dX10_numbers_31 : decode cX10_numbers 31 = .ok (.goto 20, 3) := by decide +kernel
theorem dX10_numbers_34 : decode cX10_numbers 34 = .ok (.iload_n 0, 1) := by decide +kernel
theorem dX10_numbers_35 : decode cX10_numbers 35 = .ok (.bipush 110, 2) := by decide +kernel
theorem dX10_numbers_37 : decode cX10_numbers 37 = .ok (.if_icmp .eq 9, 3) := by decide +kernel
theorem dX10_numbers_40 : decode cX10_numbers 40 = .ok (.iload_n 0, 1) := by decide +kernel
theorem dX10_numbers_41 : decode cX10_numbers 41 = .ok (.bipush 119, 2) := by decide +kernel
theorem dX10_numbers_43 : decode cX10_numbers 43 = .ok (.if_icmp .ne 7, 3) := by decide +kernel
theorem dX10_numbers_46 : decode cX10_numbers 46 = .ok (.iconst 1, 1) := by decide +kernel
theorem dX10_numbers_47 : decode cX10_numbers 47 = .ok (.goto 4, 3) := by decide +kernel
theorem dX10_numbers_50 : decode cX10_numbers 50 = .ok (.iconst 0, 1) := by decide +kernel
theorem dX10_numbers_51 : decode cX10_numbers 51 = .ok (.ireturn, 1) := by decide +kernel
def fX10_numbers (p0 : Int32) : Option (Int32) :=
(if p0 = ((114 : Int32)) then
(some ((2 : Int32)))
else
(if p0 = ((120 : Int32)) then
(some ((2 : Int32)))
else
(if p0 = ((109 : Int32)) then
(some ((2 : Int32)))
else
(if p0 = ((104 : Int32)) then
(some ((2 : Int32)))
else
(if p0 = ((97 : Int32)) then
(some ((2 : Int32)))
else
(if p0 = ((110 : Int32)) then
(some ((1 : Int32)))
else
(if p0 = ((119 : Int32)) then
(some ((1 : Int32)))
else
(some ((0 : Int32))))))))))
def oX10_numbers (D : jv_D)  (r : Int32) : va_W := []
set_option maxHeartbeats 40000000 in
set_option maxRecDepth 100000 in
theorem mX10_numbers (l : Launch) (D : jv_D) (p0 : Int32) (r : Int32) (h : fX10_numbers p0 = some r) : MM l yX10_numbers (jW yX10_numbers cX10_numbers 1 (some .int)) ({ frames := 0, cells := 0, slots := 0, locals := 0 }) D [.int p0] [] (some (.int r)) (oX10_numbers D  r) := by
  refine mn_of hpX10_numbers (Nat.le_of_ble_eq_true rfl) ?_
  intro X hXl C E0 hN
  subst hXl
  replace C : JC D X 1 RX10 cX10_numbers ({ frames := 0, cells := 0, slots := 0, locals := 0 }) := C
  have E : JE D X 0 0 (some .int) (fun _ : Unit => (some (.int r))) (fun _ : Unit => (oX10_numbers D  r)) := E0 0 0 rfl rfl
  clear E0 hN
  show JJ D X 1 0 0 0 [(0, .int p0)] [] []
  unfold fX10_numbers at h
  refine j_iload_n C dX10_numbers_0 rfl 0 rfl ?_
  refine j_bipush C dX10_numbers_1 (v := (114 : Int32)) (by decide) ?_
  refine j_icmp_eq C (tgt := 30) dX10_numbers_3 (by decide) h (fun c1 h => ?_) (fun c1 h => ?_)
  · refine j_iconst C dX10_numbers_30 (v := (2 : Int32)) (by decide) ?_
    refine j_goto C dX10_numbers_31 (tgt := 51) (by decide) ?_
    exact j_iretR C (r := r) (rtf := fun r => (some (.int r))) (wff := fun r => (oX10_numbers D  r)) E h rfl rfl dX10_numbers_51
  · refine j_iload_n C dX10_numbers_6 rfl 0 rfl ?_
    refine j_bipush C dX10_numbers_7 (v := (120 : Int32)) (by decide) ?_
    refine j_icmp_eq C (tgt := 30) dX10_numbers_9 (by decide) h (fun c2 h => ?_) (fun c2 h => ?_)
    · refine j_iconst C dX10_numbers_30 (v := (2 : Int32)) (by decide) ?_
      refine j_goto C dX10_numbers_31 (tgt := 51) (by decide) ?_
      exact j_iretR C (r := r) (rtf := fun r => (some (.int r))) (wff := fun r => (oX10_numbers D  r)) E h rfl rfl dX10_numbers_51
    · refine j_iload_n C dX10_numbers_12 rfl 0 rfl ?_
      refine j_bipush C dX10_numbers_13 (v := (109 : Int32)) (by decide) ?_
      refine j_icmp_eq C (tgt := 30) dX10_numbers_15 (by decide) h (fun c3 h => ?_) (fun c3 h => ?_)
      · refine j_iconst C dX10_numbers_30 (v := (2 : Int32)) (by decide) ?_
        refine j_goto C dX10_numbers_31 (tgt := 51) (by decide) ?_
        exact j_iretR C (r := r) (rtf := fun r => (some (.int r))) (wff := fun r => (oX10_numbers D  r)) E h rfl rfl dX10_numbers_51
      · refine j_iload_n C dX10_numbers_18 rfl 0 rfl ?_
        refine j_bipush C dX10_numbers_19 (v := (104 : Int32)) (by decide) ?_
        refine j_icmp_eq C (tgt := 30) dX10_numbers_21 (by decide) h (fun c4 h => ?_) (fun c4 h => ?_)
        · refine j_iconst C dX10_numbers_30 (v := (2 : Int32)) (by decide) ?_
          refine j_goto C dX10_numbers_31 (tgt := 51) (by decide) ?_
          exact j_iretR C (r := r) (rtf := fun r => (some (.int r))) (wff := fun r => (oX10_numbers D  r)) E h rfl rfl dX10_numbers_51
        · refine j_iload_n C dX10_numbers_24 rfl 0 rfl ?_
          refine j_bipush C dX10_numbers_25 (v := (97 : Int32)) (by decide) ?_
          refine j_icmp_ne C (tgt := 34) dX10_numbers_27 (by decide) h (fun c5 h => ?_) (fun c5 h => ?_)
          · refine j_iconst C dX10_numbers_30 (v := (2 : Int32)) (by decide) ?_
            refine j_goto C dX10_numbers_31 (tgt := 51) (by decide) ?_
            exact j_iretR C (r := r) (rtf := fun r => (some (.int r))) (wff := fun r => (oX10_numbers D  r)) E h rfl rfl dX10_numbers_51
          · refine j_iload_n C dX10_numbers_34 rfl 0 rfl ?_
            refine j_bipush C dX10_numbers_35 (v := (110 : Int32)) (by decide) ?_
            refine j_icmp_eq C (tgt := 46) dX10_numbers_37 (by decide) h (fun c6 h => ?_) (fun c6 h => ?_)
            · refine j_iconst C dX10_numbers_46 (v := (1 : Int32)) (by decide) ?_
              refine j_goto C dX10_numbers_47 (tgt := 51) (by decide) ?_
              exact j_iretR C (r := r) (rtf := fun r => (some (.int r))) (wff := fun r => (oX10_numbers D  r)) E h rfl rfl dX10_numbers_51
            · refine j_iload_n C dX10_numbers_40 rfl 0 rfl ?_
              refine j_bipush C dX10_numbers_41 (v := (119 : Int32)) (by decide) ?_
              refine j_icmp_ne C (tgt := 50) dX10_numbers_43 (by decide) h (fun c7 h => ?_) (fun c7 h => ?_)
              · refine j_iconst C dX10_numbers_46 (v := (1 : Int32)) (by decide) ?_
                refine j_goto C dX10_numbers_47 (tgt := 51) (by decide) ?_
                exact j_iretR C (r := r) (rtf := fun r => (some (.int r))) (wff := fun r => (oX10_numbers D  r)) E h rfl rfl dX10_numbers_51
              · refine j_iconst C dX10_numbers_50 (v := (0 : Int32)) (by decide) ?_
                exact j_iretR C (r := r) (rtf := fun r => (some (.int r))) (wff := fun r => (oX10_numbers D  r)) E h rfl rfl dX10_numbers_51
