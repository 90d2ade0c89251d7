/-! single calls: texts wiped, stones and paints asked -/
theorem FU_ge {n : Nat} (h : n ≤ 1000000) : n ≤ FU := h
theorem st_wipe : St_wipe Inv_ := by
  intro x_text_length x_text_bytes_ x_reader_at x_reader_first x_reader_second x_reader_stoneTold x_reader_paintTold x_wall_worn x_wall_turn x_wall_order x_wall_pastLength x_wall_heldLength x_wall_past_ x_wall_held_ x_row_length x_row_paintings_ x_game_known_ x_lot_above x_lot_below x_laid_rows x_laid_columns x_laid_paints x_laid_apart x_laid_paintsOf0 x_laid_paintsOf1 x_laid_old x_laid_shut x_laid_all x_laid_firstColumn x_laid_fitsAtFirst x_laid_paintingsOf0 x_laid_paintingsOf1 x_laid_ruledOut_ x_spare_rows x_spare_columns x_spare_paints x_spare_apart x_spare_paintsOf0 x_spare_paintsOf1 x_spare_old x_spare_shut x_spare_all x_spare_firstColumn x_spare_fitsAtFirst x_spare_paintingsOf0 x_spare_paintingsOf1 x_spare_ruledOut_ y_length y_at y_stones y_kept y_done y_rows y_frees y_fewest y_text_ y_told_ y_touches_ y_has_ y_old_ y_beside_ y_slot_ y_row_ y_free_ y_worth_ y_fore_ y_back_ y_got_
  intro hI
  replace hI : InvC x_text_length x_text_bytes_ x_reader_at x_reader_first x_reader_second x_reader_stoneTold x_reader_paintTold x_wall_worn x_wall_turn x_wall_order x_wall_pastLength x_wall_heldLength x_wall_past_ x_wall_held_ x_row_length x_row_paintings_ x_game_known_ x_lot_above x_lot_below x_laid_rows x_laid_columns x_laid_paints x_laid_apart x_laid_paintsOf0 x_laid_paintsOf1 x_laid_old x_laid_shut x_laid_all x_laid_firstColumn x_laid_fitsAtFirst x_laid_paintingsOf0 x_laid_paintingsOf1 x_laid_ruledOut_ x_spare_rows x_spare_columns x_spare_paints x_spare_apart x_spare_paintsOf0 x_spare_paintsOf1 x_spare_old x_spare_shut x_spare_all x_spare_firstColumn x_spare_fitsAtFirst x_spare_paintingsOf0 x_spare_paintingsOf1 x_spare_ruledOut_ y_length y_at y_stones y_kept y_done y_rows y_frees y_fewest y_text_ y_told_ y_touches_ y_has_ y_old_ y_beside_ y_slot_ y_row_ y_free_ y_worth_ y_fore_ y_back_ y_got_ := hI
  obtain ⟨g, w, d, ps, e, ks, r, rs, len, hg, hIT, hXU, hXS, hMR, hIW, hIP, hIH, hIR, hMem⟩ := hI
  obtain ⟨h1, h2, h3, h4⟩ := hIT
  refine ⟨(x_text_length, 0), (y_length, 0), rfl, rfl, by rw [h2, h3], ?_⟩
  exact ⟨g, w, d, ps, e, ks, r, rs, 0, hg, ⟨by omega, rfl, rfl, fun i hi => absurd hi (Nat.not_lt_zero i)⟩, hXU, hXS, hMR, hIW, hIP, hIH, hIR, hMem⟩
theorem st_noRow : St_noRow Inv_ := by
  intro x_text_length x_text_bytes_ x_reader_at x_reader_first x_reader_second x_reader_stoneTold x_reader_paintTold x_wall_worn x_wall_turn x_wall_order x_wall_pastLength x_wall_heldLength x_wall_past_ x_wall_held_ x_row_length x_row_paintings_ x_game_known_ x_lot_above x_lot_below x_laid_rows x_laid_columns x_laid_paints x_laid_apart x_laid_paintsOf0 x_laid_paintsOf1 x_laid_old x_laid_shut x_laid_all x_laid_firstColumn x_laid_fitsAtFirst x_laid_paintingsOf0 x_laid_paintingsOf1 x_laid_ruledOut_ x_spare_rows x_spare_columns x_spare_paints x_spare_apart x_spare_paintsOf0 x_spare_paintsOf1 x_spare_old x_spare_shut x_spare_all x_spare_firstColumn x_spare_fitsAtFirst x_spare_paintingsOf0 x_spare_paintingsOf1 x_spare_ruledOut_ y_length y_at y_stones y_kept y_done y_rows y_frees y_fewest y_text_ y_told_ y_touches_ y_has_ y_old_ y_beside_ y_slot_ y_row_ y_free_ y_worth_ y_fore_ y_back_ y_got_
  intro hI
  replace hI : InvC x_text_length x_text_bytes_ x_reader_at x_reader_first x_reader_second x_reader_stoneTold x_reader_paintTold x_wall_worn x_wall_turn x_wall_order x_wall_pastLength x_wall_heldLength x_wall_past_ x_wall_held_ x_row_length x_row_paintings_ x_game_known_ x_lot_above x_lot_below x_laid_rows x_laid_columns x_laid_paints x_laid_apart x_laid_paintsOf0 x_laid_paintsOf1 x_laid_old x_laid_shut x_laid_all x_laid_firstColumn x_laid_fitsAtFirst x_laid_paintingsOf0 x_laid_paintingsOf1 x_laid_ruledOut_ x_spare_rows x_spare_columns x_spare_paints x_spare_apart x_spare_paintsOf0 x_spare_paintsOf1 x_spare_old x_spare_shut x_spare_all x_spare_firstColumn x_spare_fitsAtFirst x_spare_paintingsOf0 x_spare_paintingsOf1 x_spare_ruledOut_ y_length y_at y_stones y_kept y_done y_rows y_frees y_fewest y_text_ y_told_ y_touches_ y_has_ y_old_ y_beside_ y_slot_ y_row_ y_free_ y_worth_ y_fore_ y_back_ y_got_ := hI
  obtain ⟨g, w, d, ps, e, ks, r, rs, len, hg, hIT, hXU, hXS, hMR, hIW, hIP, hIH, hIR, hMem⟩ := hI
  obtain ⟨h1, h2, h3, h4⟩ := hIR
  refine ⟨(x_row_length, 0), (y_rows, 0), rfl, rfl, by rw [h2, h3], ?_⟩
  exact ⟨g, w, d, ps, e, ks, 0, rs, len, hg, hIT, hXU, hXS, hMR, hIW, hIP, hIH, ⟨by omega, rfl, rfl, fun i hi => absurd hi (Nat.not_lt_zero i)⟩, hMem⟩
theorem gn {g : JP} (hg : GOK g) : 1 ≤ pn g ∧ pn g ≤ 9 ∧ pR g ≤ 9 ∧ pC g ≤ 9 := by
  have hn := hg.2.2.1
  exact ⟨Nat.mul_pos hg.1 hg.2.1, hn, Nat.le_trans (Nat.le_mul_of_pos_right _ hg.2.1) hn, Nat.le_trans (Nat.le_mul_of_pos_left _ hg.1) hn⟩
theorem if_f {α : Type} {X Y : Option α} : (if nI false.toNat = 0 then X else Y) = X := if_pos (by decide)
theorem if_t {α : Type} {X Y : Option α} : (if nI true.toNat = 0 then X else Y) = Y := if_neg (by decide)
theorem k10 : ((1 : Int32) = 0) = False := eq_false (by decide)
theorem k20 : ((2 : Int32) = 0) = False := eq_false (by decide)
theorem k21 : ((2 : Int32) = 1) = False := eq_false (by decide)
theorem k12 : ((1 : Int32) = 2) = False := eq_false (by decide)
theorem st_touch : St_touch Inv_ := by
  intro x_text_length x_text_bytes_ x_reader_at x_reader_first x_reader_second x_reader_stoneTold x_reader_paintTold x_wall_worn x_wall_turn x_wall_order x_wall_pastLength x_wall_heldLength x_wall_past_ x_wall_held_ x_row_length x_row_paintings_ x_game_known_ x_lot_above x_lot_below x_laid_rows x_laid_columns x_laid_paints x_laid_apart x_laid_paintsOf0 x_laid_paintsOf1 x_laid_old x_laid_shut x_laid_all x_laid_firstColumn x_laid_fitsAtFirst x_laid_paintingsOf0 x_laid_paintingsOf1 x_laid_ruledOut_ x_spare_rows x_spare_columns x_spare_paints x_spare_apart x_spare_paintsOf0 x_spare_paintsOf1 x_spare_old x_spare_shut x_spare_all x_spare_firstColumn x_spare_fitsAtFirst x_spare_paintingsOf0 x_spare_paintingsOf1 x_spare_ruledOut_ y_length y_at y_stones y_kept y_done y_rows y_frees y_fewest y_text_ y_told_ y_touches_ y_has_ y_old_ y_beside_ y_slot_ y_row_ y_free_ y_worth_ y_fore_ y_back_ y_got_
  intro p1 p2 hI
  have hI0 := hI
  replace hI : InvC x_text_length x_text_bytes_ x_reader_at x_reader_first x_reader_second x_reader_stoneTold x_reader_paintTold x_wall_worn x_wall_turn x_wall_order x_wall_pastLength x_wall_heldLength x_wall_past_ x_wall_held_ x_row_length x_row_paintings_ x_game_known_ x_lot_above x_lot_below x_laid_rows x_laid_columns x_laid_paints x_laid_apart x_laid_paintsOf0 x_laid_paintsOf1 x_laid_old x_laid_shut x_laid_all x_laid_firstColumn x_laid_fitsAtFirst x_laid_paintingsOf0 x_laid_paintingsOf1 x_laid_ruledOut_ x_spare_rows x_spare_columns x_spare_paints x_spare_apart x_spare_paintsOf0 x_spare_paintsOf1 x_spare_old x_spare_shut x_spare_all x_spare_firstColumn x_spare_fitsAtFirst x_spare_paintingsOf0 x_spare_paintingsOf1 x_spare_ruledOut_ y_length y_at y_stones y_kept y_done y_rows y_frees y_fewest y_text_ y_told_ y_touches_ y_has_ y_old_ y_beside_ y_slot_ y_row_ y_free_ y_worth_ y_fore_ y_back_ y_got_ := hI
  obtain ⟨g, w, d, ps, e, ks, r, rs, len, hg, hIT, hXU, hXS, hMR, hIW, hIP, hIH, hIR, hMem⟩ := hI
  have hP := hg.2.2.2.2.1
  have hx1 := x_hasPaint hP p1; have hx2 := x_hasPaint hP p2
  have hm1 := isPaint_ok hP hMR.2.1.2.2 p1; have hm2 := isPaint_ok hP hMR.2.1.2.2 p2
  suffices h : ∃ v, fX9_touch x_laid_paints x_laid_apart p1 p2 = some v ∧ fX10_touch y_told_ y_touches_ p1 p2 = some v by
    obtain ⟨v, h1, h2⟩ := h
    exact ⟨v, v, h1, h2, rfl, hI0⟩
  unfold fX9_touch fX10_touch
  rw [hXU.2.2.1, hx1, hx2, hm1, hm2]
  simp only [Option.bind_some]
  cases e1 : isP p1 (pP g)
  · exact ⟨_, rfl, rfl⟩
  · cases e2 : isP p2 (pP g)
    · exact ⟨_, rfl, rfl⟩
    · obtain ⟨a, a1, a2, rfl⟩ := (isP_iff hP).mp e1
      obtain ⟨b, b1, b2, rfl⟩ := (isP_iff hP).mp e2
      have ht := hMR.2.2.1 a b a1 (by omega) b1 (by omega)
      have c1 : ¬ 32 ≤ 4 * a + b := by omega
      rw [x_mayTouch hXU a1 (by omega) b1 (by omega)]
      simp (disch := omega) only [fa_lit, ni_bit, b2n_0, b2n_1, ni_m1, ni_of1, ni_ofm1, nI_add, pk_mul, nI_clamp, ni_lt, ni_le, ni_eq, ni_l, fa_litL, ln_le, ln_lt, ln_eq, jl_let_eq, Option.bind_some, ↓reduceIte, c1, ht, Bool.toNat_true, Nat.not_lt_zero, or_self, Nat.one_ne_zero]
      refine ⟨nI (pT g a b).toNat, ?_, ?_⟩ <;> cases pT g a b <;> rfl
theorem mayModel {g : JP} (hg : GOK g) {stones : Int32} {told touches has old beside slot : Nat → Int32} (hM : MR g stones told touches has old beside) {w : JW} (hc : COK w.1) (hS : SW slot 0 w) (ht : w.2.2 ≤ 1) {s F : Nat} (hs : s < pn g) (hF : 10 ≤ F) : fX10_may F stones told touches has beside slot (nI s) = some (nI (nb 3 (fun j => mayA g w.1 w.2.2 s (j + 1)))) := by
  obtain ⟨hn1, hn9, -, -⟩ := gn hg
  have hP := hg.2.2.2.2.1
  unfold fX10_may
  rw [hM.1, isStone_ok hn1 hn9, isN_nI (by omega), Option.bind_some, ← hM.1]
  simp only [hs, decide_true]
  rw [if_neg (by decide)]
  unfold lX10_may_14
  refine jl_run2 (fun m x y => ∃ t, y = nI (t + 1) ∧ t + m = pP g ∧ x = nI (nb 3 (fun j => decide (j < t) && mayA g w.1 w.2.2 s (j + 1)))) ?_ F (pP g) _ _ ⟨0, rfl, by omega, by rw [nb_cong (g := fun _ => false) (fun i _ => by simp)]; rfl⟩ (by omega)
  rintro m x y ⟨t, rfl, hd, rfl⟩
  rcases Nat.eq_zero_or_pos m with h0 | h0
  · left; intro k
    unfold bX10_may_14
    rw [c2, hM.2.1.2.2]
    rw [if_pos (by rw [nI_ltI (by omega) (by omega)]; omega)]
    refine congrArg (fun z => some (nI z)) (nb_cong (fun j hj => ?_))
    by_cases hjt : j < t
    · simp [hjt]
    · have : mayA g w.1 w.2.2 s (j + 1) = false := by
        cases e : mayA g w.1 w.2.2 s (j + 1) with
        | false => rfl
        | true =>
          simp only [mayA, Bool.and_eq_true] at e
          have := (hg.2.2.2.2.2.2.1 _ _ e.2.1).2
          omega
      simp [this]
  · right
    refine ⟨m - 1, _, _, by omega, ⟨t + 1, rfl, by omega, rfl⟩, ?_⟩
    intro k
    unfold bX10_may_14 fX10_may_44
    have hmay := isMay_ok hg hM hc (by omega) hS hs ht (p := t + 1) (by omega) (by omega) hF
    rw [c2, hM.2.1.2.2]
    have a0 : ¬ pP g < t + 1 := by omega
    simp (disch := omega) only [fa_lit, ni_bit, b2n_0, b2n_1, ni_m1, ni_of1, ni_ofm1, nI_add, pk_mul, nI_clamp, ni_lt, ni_le, ni_eq, ni_l, fa_litL, ln_le, ln_lt, ln_eq, jl_let_eq, Option.bind_some, ↓reduceIte, a0, hmay, pk_sub]
    rw [show t + 1 - 1 = t by omega, ni_shl _ (by omega), Nat.one_mul]
    have step : nb 3 (fun j => decide (j < t + 1) && mayA g w.1 w.2.2 s (j + 1)) = nb 3 (fun j => decide (j < t) && mayA g w.1 w.2.2 s (j + 1)) ||| (if mayA g w.1 w.2.2 s (t + 1) = true then 2 ^ t else 0) := by
      symm
      have h2t : 2 ^ t < 2 ^ 3 := Nat.pow_lt_pow_right (by omega) (by omega)
      refine nb_ext (Nat.or_lt_two_pow (nb_lt _ _) (by split <;> omega)) (fun j hj => ?_)
      rw [Nat.testBit_or, nb_tb]
      by_cases hjt : j = t
      · subst hjt
        cases hT : mayA g w.1 w.2.2 s (j + 1)
        · simp
        · simp [Nat.testBit_two_pow]
      · have z : (if mayA g w.1 w.2.2 s (t + 1) = true then 2 ^ t else 0).testBit j = false := by
          split
          · rw [Nat.testBit_two_pow]; simp; omega
          · simp
        rw [z, Bool.or_false]
        have : decide (j < t) = decide (j < t + 1) := by apply decide_eq_decide.mpr; omega
        simp [hj, this]
    rw [step]
    cases mayA g w.1 w.2.2 s (t + 1)
    · simp only [Bool.false_eq_true, if_true, if_false, ni_or]
    · simp only [Bool.true_eq_false, if_true, if_false, ni_or]
theorem choices_ok {g : JP} (hg : GOK g) {all fc fit pg0 pg1 : Int32} {ro : Nat → Int32} (hX : XS g all fc fit pg0 pg1 ro) {c : Nat → Nat} (hc : CG g c) {t F : Nat} (ht : t ≤ 1) (hF : 29 ≤ F) : fX9_choicesNow F (nI (wornS c)) (nI t) fit pg0 pg1 ro = some (nI (chS g c t)) := by
  unfold fX9_choicesNow
  rw [x_fitting hg hX hc hF, Option.bind_some, x_paintingsOf ht, Option.bind_some, hX.2.2.2.1, hX.2.2.2.2.1]
  rcases (show t = 0 ∨ t = 1 by omega) with rfl | rfl
  · rw [if_pos rfl, ni_and, chS_eq hg hc]
  · rw [if_neg (by omega), ni_and, chS_eq hg hc]
theorem st_may : St_may Inv_ := by
  intro x_text_length x_text_bytes_ x_reader_at x_reader_first x_reader_second x_reader_stoneTold x_reader_paintTold x_wall_worn x_wall_turn x_wall_order x_wall_pastLength x_wall_heldLength x_wall_past_ x_wall_held_ x_row_length x_row_paintings_ x_game_known_ x_lot_above x_lot_below x_laid_rows x_laid_columns x_laid_paints x_laid_apart x_laid_paintsOf0 x_laid_paintsOf1 x_laid_old x_laid_shut x_laid_all x_laid_firstColumn x_laid_fitsAtFirst x_laid_paintingsOf0 x_laid_paintingsOf1 x_laid_ruledOut_ x_spare_rows x_spare_columns x_spare_paints x_spare_apart x_spare_paintsOf0 x_spare_paintsOf1 x_spare_old x_spare_shut x_spare_all x_spare_firstColumn x_spare_fitsAtFirst x_spare_paintingsOf0 x_spare_paintingsOf1 x_spare_ruledOut_ y_length y_at y_stones y_kept y_done y_rows y_frees y_fewest y_text_ y_told_ y_touches_ y_has_ y_old_ y_beside_ y_slot_ y_row_ y_free_ y_worth_ y_fore_ y_back_ y_got_
  intro p1 hI
  have hI0 := hI
  replace hI : InvC x_text_length x_text_bytes_ x_reader_at x_reader_first x_reader_second x_reader_stoneTold x_reader_paintTold x_wall_worn x_wall_turn x_wall_order x_wall_pastLength x_wall_heldLength x_wall_past_ x_wall_held_ x_row_length x_row_paintings_ x_game_known_ x_lot_above x_lot_below x_laid_rows x_laid_columns x_laid_paints x_laid_apart x_laid_paintsOf0 x_laid_paintsOf1 x_laid_old x_laid_shut x_laid_all x_laid_firstColumn x_laid_fitsAtFirst x_laid_paintingsOf0 x_laid_paintingsOf1 x_laid_ruledOut_ x_spare_rows x_spare_columns x_spare_paints x_spare_apart x_spare_paintsOf0 x_spare_paintsOf1 x_spare_old x_spare_shut x_spare_all x_spare_firstColumn x_spare_fitsAtFirst x_spare_paintingsOf0 x_spare_paintingsOf1 x_spare_ruledOut_ y_length y_at y_stones y_kept y_done y_rows y_frees y_fewest y_text_ y_told_ y_touches_ y_has_ y_old_ y_beside_ y_slot_ y_row_ y_free_ y_worth_ y_fore_ y_back_ y_got_ := hI
  obtain ⟨g, w, d, ps, e, ks, r, rs, len, hg, hIT, hXU, hXS, hMR, hIW, hIP, hIH, hIR, hMem⟩ := hI
  obtain ⟨hn1, hn9, hR9, hC9⟩ := gn hg
  obtain ⟨hW, rfl, rfl, -, hSW⟩ := hIW
  suffices h : ∃ v, fX9_may FU (nI (wornS w.1)) (nI w.2.2) x_laid_rows x_laid_columns x_laid_fitsAtFirst x_laid_paintingsOf0 x_laid_paintingsOf1 x_laid_ruledOut_ p1 = some v ∧ fX10_may FU y_stones y_told_ y_touches_ y_has_ y_beside_ y_slot_ p1 = some v by
    obtain ⟨v, h1, h2⟩ := h
    exact ⟨v, v, h1, h2, rfl, hI0⟩
  have hx := x_hasStone hn9 hR9 hC9 p1
  cases e1 : isN p1 (pn g)
  · refine ⟨-1, ?_, ?_⟩
    · unfold fX9_may
      rw [hXU.1, hXU.2.1, hx, show pR g * pC g = pn g from rfl, e1]; rfl
    · unfold fX10_may
      rw [hMR.1, isStone_ok hn1 hn9, e1]; rfl
  · obtain ⟨s, hs, -, rfl⟩ := isN_iff.mp e1
    refine ⟨_, ?_, mayModel hg hMR hW.1.1 hSW hW.2.1 hs (FU_ge (by omega))⟩
    unfold fX9_may
    rw [hXU.1, hXU.2.1, hx, show pR g * pC g = pn g from rfl, e1, Option.bind_some, if_neg (by decide), choices_ok hg hXS hW.1 hW.2.1 (FU_ge (by omega)), Option.bind_some]
    unfold chS
    rw [x_paintsAt (by omega), Option.bind_some]
    refine congrArg (fun z => some (nI z)) (nb_cong (fun j hj => ?_))
    simp [hs]
theorem st_stone : St_stone Inv_ := by
  intro x_text_length x_text_bytes_ x_reader_at x_reader_first x_reader_second x_reader_stoneTold x_reader_paintTold x_wall_worn x_wall_turn x_wall_order x_wall_pastLength x_wall_heldLength x_wall_past_ x_wall_held_ x_row_length x_row_paintings_ x_game_known_ x_lot_above x_lot_below x_laid_rows x_laid_columns x_laid_paints x_laid_apart x_laid_paintsOf0 x_laid_paintsOf1 x_laid_old x_laid_shut x_laid_all x_laid_firstColumn x_laid_fitsAtFirst x_laid_paintingsOf0 x_laid_paintingsOf1 x_laid_ruledOut_ x_spare_rows x_spare_columns x_spare_paints x_spare_apart x_spare_paintsOf0 x_spare_paintsOf1 x_spare_old x_spare_shut x_spare_all x_spare_firstColumn x_spare_fitsAtFirst x_spare_paintingsOf0 x_spare_paintingsOf1 x_spare_ruledOut_ y_length y_at y_stones y_kept y_done y_rows y_frees y_fewest y_text_ y_told_ y_touches_ y_has_ y_old_ y_beside_ y_slot_ y_row_ y_free_ y_worth_ y_fore_ y_back_ y_got_
  intro p1 p2 hI
  have hI0 := hI
  replace hI : InvC x_text_length x_text_bytes_ x_reader_at x_reader_first x_reader_second x_reader_stoneTold x_reader_paintTold x_wall_worn x_wall_turn x_wall_order x_wall_pastLength x_wall_heldLength x_wall_past_ x_wall_held_ x_row_length x_row_paintings_ x_game_known_ x_lot_above x_lot_below x_laid_rows x_laid_columns x_laid_paints x_laid_apart x_laid_paintsOf0 x_laid_paintsOf1 x_laid_old x_laid_shut x_laid_all x_laid_firstColumn x_laid_fitsAtFirst x_laid_paintingsOf0 x_laid_paintingsOf1 x_laid_ruledOut_ x_spare_rows x_spare_columns x_spare_paints x_spare_apart x_spare_paintsOf0 x_spare_paintsOf1 x_spare_old x_spare_shut x_spare_all x_spare_firstColumn x_spare_fitsAtFirst x_spare_paintingsOf0 x_spare_paintingsOf1 x_spare_ruledOut_ y_length y_at y_stones y_kept y_done y_rows y_frees y_fewest y_text_ y_told_ y_touches_ y_has_ y_old_ y_beside_ y_slot_ y_row_ y_free_ y_worth_ y_fore_ y_back_ y_got_ := hI
  obtain ⟨g, w, d, ps, e, ks, r, rs, len, hg, hIT, hXU, hXS, hMR, hIW, hIP, hIH, hIR, hMem⟩ := hI
  obtain ⟨hn1, hn9, hR9, hC9⟩ := gn hg
  obtain ⟨hW, rfl, rfl, -, hSW⟩ := hIW
  suffices h : ∃ v, fX9_stone (nI (wornS w.1)) x_laid_rows x_laid_columns x_laid_old x_laid_shut x_laid_all x_laid_firstColumn p1 p2 = some v ∧ fX10_stone y_stones y_old_ y_beside_ y_slot_ p1 p2 = some v by
    obtain ⟨v, h1, h2⟩ := h
    exact ⟨v, v, h1, h2, rfl, hI0⟩
  have hx := x_hasStone hn9 hR9 hC9 p1
  unfold fX9_stone fX10_stone
  rw [hXU.1, hXU.2.1, hx, show pR g * pC g = pn g from rfl, hMR.1, isStone_ok hn1 hn9, Option.bind_some, Option.bind_some]
  cases e1 : isN p1 (pn g)
  · exact ⟨_, rfl, rfl⟩
  · obtain ⟨s, hs, -, rfl⟩ := isN_iff.mp e1
    rw [if_t, if_t, in_ok, Option.bind_some]
    have d0 : ¬ 240 ≤ s := by omega
    have d1 : ¬ 18 ≤ s := by omega
    have d2 : ¬ 9 ≤ s := by omega
    have hold := hMR.2.2.2.2.1 s (by omega)
    have hO := hg.2.2.2.2.2.2.2.1 s
    have hP := hg.2.2.2.2.1
    by_cases h0 : p2 = 0
    · subst h0
      simp only [i2l_toInt, if_true]
      have hsl := hSW.1 s (by omega)
      rw [Nat.mul_zero, Nat.zero_add] at hsl
      refine ⟨nI (w.1 s), ?_, ?_⟩
      · have hb := ni_bit (m := nb 9 (fun s => decide (pO g s = 9))) (j := s) (nb_lt31 (by omega) _) (by omega)
        rw [hXU.2.2.2.2.2.2.2, show (31 : Int32) = nI 31 from rfl, show (1 : Int32) = nI 1 from rfl, hb, nb_tb]
        rcases hW.1.1 s with h3 | h9
        · have : ¬ pO g s = 9 := fun e => by have := (hW.1.2.2 s).mpr e; omega
          simp only [this, decide_false, Bool.and_false]
          rw [if_f, x_paintOn (by omega) h3, Option.bind_some]
        · have : pO g s = 9 := (hW.1.2.2 s).mp h9
          have h9s : s < 9 := by omega
          simp only [this, h9s, decide_true, Bool.and_true]
          rw [if_neg (by decide), h9]; rfl
      · simp (disch := omega) only [fa_lit, ni_bit, b2n_0, b2n_1, ni_m1, ni_of1, ni_ofm1, nI_add, pk_mul, nI_clamp, ni_lt, ni_le, ni_eq, ni_l, fa_litL, ln_le, ln_lt, ln_eq, jl_let_eq, Option.bind_some, ↓reduceIte, d0, Nat.not_lt_zero, or_self, hsl]
        rfl
    · by_cases h1 : p2 = 1
      · subst h1
        rw [show (decide ((0 : Int64).toInt ≤ ((1 : Int32)).toInt64.toInt) && decide (((1 : Int32)).toInt64.toInt ≤ (2 : Int64).toInt)) = true from by decide, if_t, hXU.2.2.2.2.2.2.1]
        simp only [k10, if_true, if_false]
        simp (disch := omega) only [fa_lit, ni_bit, b2n_0, b2n_1, ni_m1, ni_of1, ni_ofm1, nI_add, pk_mul, nI_clamp, ni_lt, ni_le, ni_eq, ni_l, fa_litL, ln_le, ln_lt, ln_eq, jl_let_eq, Option.bind_some, ↓reduceIte, d1, Nat.not_lt_zero, or_self, hold, in_ok]
        rw [L_toInt (by omega), L_toInt (by omega), L_toInt (by omega)]
        rcases hO with h3 | h9
        · rw [x_paintOn (by omega) (by omega), Option.bind_some]
          rcases Nat.eq_zero_or_pos (pO g s) with z | z
          · rw [z]; exact ⟨_, rfl, rfl⟩
          · have a : (1 : Int) ≤ (pO g s : Int) := by omega
            have b : (pO g s : Int) ≤ 3 := by omega
            simp (disch := omega) only [fa_lit, ni_bit, b2n_0, b2n_1, ni_m1, ni_of1, ni_ofm1, nI_add, pk_mul, nI_clamp, ni_lt, ni_le, ni_eq, ni_l, fa_litL, ln_le, ln_lt, ln_eq, jl_let_eq, Option.bind_some, ↓reduceIte]
            have c : ¬ pO g s = 0 := by omega
            refine ⟨nI 1, ?_, ?_⟩
            · rw [if_neg c]
            · have e9 : (decide (((1 : Nat) : Int) ≤ ((pO g s : Nat) : Int))) = true := by simp; omega
              have e10 : (decide (((pO g s : Nat) : Int) ≤ ((3 : Nat) : Int))) = true := by simp; omega
              rw [e9, e10]; rfl
        · rw [x_paintOn9 (by omega) h9, h9]; exact ⟨_, rfl, rfl⟩
      · by_cases h2 : p2 = 2
        · subst h2
          rw [show (decide ((0 : Int64).toInt ≤ ((2 : Int32)).toInt64.toInt) && decide (((2 : Int32)).toInt64.toInt ≤ (2 : Int64).toInt)) = true from by decide, if_t]
          simp only [k20, k21, if_true, if_false]
          have e1 : (1 : Int32) <<< (nI s &&& 31) = nI (2 ^ s) := by
            have := ni_shl 1 (j := s) (by omega)
            rw [Nat.one_mul] at this; exact this
          have hb := hMR.2.2.2.2.2 s hs
          rw [e1, hXS.1, hXS.2.1, show pn g = pR g * pC g from rfl, x_near hg.1 hg.2.1 hn9 hs]
          simp (disch := omega) only [fa_lit, ni_bit, b2n_0, b2n_1, ni_m1, ni_of1, ni_ofm1, nI_add, pk_mul, nI_clamp, ni_lt, ni_le, ni_eq, ni_l, fa_litL, ln_le, ln_lt, ln_eq, jl_let_eq, Option.bind_some, ↓reduceIte, d2, Nat.not_lt_zero, or_self, hb]
          exact ⟨_, rfl, rfl⟩
        · rw [if_neg h0, if_neg h1, if_neg h2]
          have : (decide ((0 : Int64).toInt ≤ p2.toInt64.toInt) && decide (p2.toInt64.toInt ≤ (2 : Int64).toInt)) = false := by
            rw [i2l_toInt, show (0 : Int64).toInt = 0 from by decide, show (2 : Int64).toInt = 2 from by decide]
            have n0 : p2.toInt ≠ 0 := fun e => h0 (by rw [fa_eq, e]; rfl)
            have n1 : p2.toInt ≠ 1 := fun e => h1 (by rw [fa_eq, e]; rfl)
            have n2 : p2.toInt ≠ 2 := fun e => h2 (by rw [fa_eq, e]; rfl)
            rw [Bool.and_eq_false_iff]
            simp only [decide_eq_false_iff_not]
            omega
          rw [this]; exact ⟨_, rfl, rfl⟩
