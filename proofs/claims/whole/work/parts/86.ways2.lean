/-! ways, the fewest paints, what matters, the least to scrape -/
/-- what is held of the stands, when only the slot that is tried changes -/
theorem slot_low {g : JP} (hg : GOK g) {w : JW} (hW : WOK g w) {d e : Nat} {ps ks : Nat → JW} {xl xh yd yk : Int32} {xp xq : Nat → Int64} {slot slot' : Nat → Int32} (hSW : SW slot 0 w) (hIP : IPa g d ps xl xp yd slot) (hIH : IHe g e ks xh xq yk slot) (k : ∀ j, j < 220 → slot' j = slot j) : SW slot' 0 w ∧ IPa g d ps xl xp yd slot' ∧ IHe g e ks xh xq yk slot' :=
  ⟨hSW.kept (hW.len9 hg) (fun j _ j2 => k j (by omega)), past_kept (slot' := slot') hg hIP (fun j _ j2 => k j j2), held_kept (slot' := slot') hg hIH (fun j _ j2 => k j (by omega))⟩
theorem st_ways : St_ways Inv_ := by
  intro x_text_length x_text_bytes_ x_reader_at x_reader_first x_reader_second x_reader_stoneTold x_reader_paintTold x_wall_worn x_wall_turn x_wall_order x_wall_pastLength x_wall_heldLength x_wall_past_ x_wall_held_ x_row_length x_row_paintings_ x_game_known_ x_lot_above x_lot_below x_laid_rows x_laid_columns x_laid_paints x_laid_apart x_laid_paintsOf0 x_laid_paintsOf1 x_laid_old x_laid_shut x_laid_all x_laid_firstColumn x_laid_fitsAtFirst x_laid_paintingsOf0 x_laid_paintingsOf1 x_laid_ruledOut_ x_spare_rows x_spare_columns x_spare_paints x_spare_apart x_spare_paintsOf0 x_spare_paintsOf1 x_spare_old x_spare_shut x_spare_all x_spare_firstColumn x_spare_fitsAtFirst x_spare_paintingsOf0 x_spare_paintingsOf1 x_spare_ruledOut_ y_length y_at y_stones y_kept y_done y_rows y_frees y_fewest y_text_ y_told_ y_touches_ y_has_ y_old_ y_beside_ y_slot_ y_row_ y_free_ y_worth_ y_fore_ y_back_ y_got_
  intro hI
  replace hI : InvC x_text_length x_text_bytes_ x_reader_at x_reader_first x_reader_second x_reader_stoneTold x_reader_paintTold x_wall_worn x_wall_turn x_wall_order x_wall_pastLength x_wall_heldLength x_wall_past_ x_wall_held_ x_row_length x_row_paintings_ x_game_known_ x_lot_above x_lot_below x_laid_rows x_laid_columns x_laid_paints x_laid_apart x_laid_paintsOf0 x_laid_paintsOf1 x_laid_old x_laid_shut x_laid_all x_laid_firstColumn x_laid_fitsAtFirst x_laid_paintingsOf0 x_laid_paintingsOf1 x_laid_ruledOut_ x_spare_rows x_spare_columns x_spare_paints x_spare_apart x_spare_paintsOf0 x_spare_paintsOf1 x_spare_old x_spare_shut x_spare_all x_spare_firstColumn x_spare_fitsAtFirst x_spare_paintingsOf0 x_spare_paintingsOf1 x_spare_ruledOut_ y_length y_at y_stones y_kept y_done y_rows y_frees y_fewest y_text_ y_told_ y_touches_ y_has_ y_old_ y_beside_ y_slot_ y_row_ y_free_ y_worth_ y_fore_ y_back_ y_got_ := hI
  obtain ⟨g, w, d, ps, e, ks, r, rs, len, hg, hIT, hXU, hXS, hMR, hIW, hIP, hIH, hIR, hMem⟩ := hI
  obtain ⟨hW, rfl, rfl, rfl, hSW⟩ := hIW
  obtain ⟨s1, c1, cp⟩ := copies_ok (slot := y_slot_) (a := 0) (b := 11) (F := FU) (by omega) (by omega) (by omega) (FU_ge (by omega))
  have hS1 := hSW.cp (hW.len9 hg) cp
  obtain ⟨free', hw⟩ := waysOf_ok hg hMR hW.1.1 hS1.1 y_frees y_fewest y_free_
  refine ⟨nI (waysN g w.1), (nI (waysN g w.1), nI (zl w.1 (pn g) 0).length, fewI g w.1, s1, free'), ?_, ?_, Eq.refl (nI (waysN g w.1)), ?_⟩
  · unfold fX9_ways
    rw [hXU.2.2.2.2.2.2.2, x_ways hg hXS hW.1 (FU_ge (by omega))]; rfl
  · unfold fX10_ways
    rw [show (0 : Int32) = nI 0 from rfl, show (11 : Int32) = nI 11 from rfl, c1, Option.bind_some, hw]; rfl
  · obtain ⟨z1, z2, z3⟩ := slot_low hg hW hSW hIP hIH (fun j hj => cp.2 j (by omega))
    exact ⟨g, w, d, ps, e, ks, r, rs, len, hg, hIT, hXU, hXS, hMR, ⟨hW, rfl, rfl, rfl, z1⟩, z2, z3, hIR, hMem⟩
/-- a wall without the paint of a set of stones -/
def cwo (c : Nat → Nat) (m : Nat) : Nat → Nat := fun s => if m.testBit s = true then 0 else c s
theorem COK.co {c : Nat → Nat} (h : COK c) (m : Nat) : COK (cwo c m) := by
  intro s
  show cwo c m s ≤ 3 ∨ cwo c m s = 9
  unfold cwo; split
  · left; omega
  · exact h s
theorem cwo_0 (c : Nat → Nat) : cwo c 0 = c := by
  funext s; unfold cwo; rw [Nat.zero_testBit]; rfl
def frS (w : JW) : Nat := nb 9 (fun s => decide (s ∈ w.2.1))
theorem frS_lt (w : JW) : frS w < 2 ^ 9 := nb_lt 9 _
theorem WOK.co {g : JP} (hg : GOK g) {w : JW} (hW : WOK g w) {m : Nat} (hm : ∀ s, m.testBit s = true → s ∈ w.2.1) : CG g (cwo w.1 m) := by
  refine ⟨hW.1.1.co m, fun s hs => ?_, fun s => ?_⟩
  · unfold cwo; split
    · rfl
    · exact hW.1.2.1 s hs
  · unfold cwo
    by_cases h : m.testBit s = true
    · rw [if_pos h]
      have := hW.lt hg (hm s h)
      constructor
      · intro e; omega
      · intro e; omega
    · rw [if_neg h]; exact hW.1.2.2 s
theorem x_cwo {c : Nat → Nat} {m : Nat} (hm : m < 2 ^ 9) : fX3_withoutPaint (nI (wornS c)) (nI m) = some (nI (wornS (cwo c m))) := by
  unfold wornS
  rw [x_withoutPaint hm]
  refine congrArg (fun z => some (nI z)) (nbp_cong (fun s p _ h1 _ => ?_))
  unfold cwo
  by_cases h : m.testBit s = true
  · rw [if_pos h, h]
    have : ¬ 0 = p := by omega
    simp [this]
  · rw [if_neg h]; simp [h]
theorem x_looseP {g : JP} (hg : GOK g) {w : JW} (hW : WOK g w) : fX3_painted (nI (wornS w.1) &&& (nI (wornS (pO g)) ^^^ (-1 : Int32))) = some (nI (frS w)) := by
  have e : nI (wornS w.1) &&& (nI (wornS (pO g)) ^^^ (-1 : Int32)) = nI (nbp (fun s p => decide (w.1 s = p) && !decide (pO g s = p))) := by
    unfold wornS; rw [ni_m1, ni_adn, nbp_adn]
  rw [e, x_painted]
  refine congrArg (fun z => some (nI z)) (nb_cong (fun s hs => ?_))
  have ho := hW.2.2.2.1 s
  have hold := hW.2.2.2.2.1 s
  have hP := hW.2.2.2.2.2 s
  have hP3 := hg.2.2.2.2.1
  apply Bool.eq_iff_iff.mpr
  simp only [Bool.or_eq_true, Bool.and_eq_true, decide_eq_true_eq, Bool.not_eq_true', decide_eq_false_iff_not]
  constructor
  · intro h
    by_cases h0 : pO g s = 0
    · exact ho.mpr ⟨h0, by omega⟩
    · have := hold h0; omega
  · intro h
    have := hW.lt hg h
    omega
theorem fresh_ok {g : JP} (hg : GOK g) {w : JW} (hW : WOK g w) {slot : Nat → Int32} (hS : SW slot 0 w) {F : Nat} (hF : 10 ≤ F) : fX10_fresh F slot = some (nI (frS w)) := by
  have hl := hW.len9 hg
  have e18 := hS.2.2.1
  rw [Nat.mul_zero, Nat.zero_add] at e18
  unfold fX10_fresh lX10_fresh_4
  refine jl_run2 (fun d x y => ∃ t, y = nI t ∧ t + d = w.2.1.length ∧ x = nI (nb 9 (fun s => decide (s ∈ w.2.1.take t)))) ?_ F w.2.1.length _ _ ⟨0, rfl, by omega, by rw [nb_cong (g := fun _ => false) (fun i _ => by simp)]; rfl⟩ (by omega)
  rintro d x y ⟨t, rfl, hd, rfl⟩
  rcases Nat.eq_zero_or_pos d with h0 | h0
  · left; intro k
    have : t = w.2.1.length := by omega
    subst this
    unfold bX10_fresh_4
    rw [c18, e18, if_pos (by rw [nI_leI (by omega) (by omega)]; exact Nat.le_refl _), List.take_length]; rfl
  · right
    refine ⟨d - 1, _, _, by omega, ⟨t + 1, rfl, by omega, rfl⟩, ?_⟩
    intro k
    unfold bX10_fresh_4
    have ht : t < w.2.1.length := by omega
    have e1 := hS.2.1 t ht
    rw [Nat.mul_zero, Nat.zero_add] at e1
    have ha : (9 : Int32) + nI t = nI (9 + t) := nI_add 9 t
    have hone : nI t + Int32.ofInt 1 = nI (t + 1) := nI_add t 1
    have hx : w.2.1.getD t 0 = w.2.1[t] := by rw [List.getD_eq_getElem?_getD, List.getElem?_eq_getElem ht]; rfl
    have hs9 : w.2.1[t] < 9 := (hW.pk hg).2.1 _ (List.getElem_mem ht)
    rw [c18, e18, if_neg (by rw [nI_leI (by omega) (by omega)]; omega), ha, nI_clamp (by omega), if_neg (by
      rintro (q | q)
      · exact nI_pos (by omega) q
      · omega)]
    simp only [jl_let_eq]
    rw [e1, hx, one_shl (by omega), ni_or, hone]
    refine congrArg (fun z => k (nI z) (nI (t + 1))) (nb_ext (Nat.or_lt_two_pow (nb_lt 9 _) (Nat.pow_lt_pow_right (by omega) hs9)) (fun i hi => ?_))
    rw [Nat.testBit_or, nb_tb, Nat.testBit_two_pow, List.take_succ_eq_append_getElem ht]
    apply Bool.eq_iff_iff.mpr
    simp only [hi, decide_true, Bool.true_and, Bool.or_eq_true, decide_eq_true_eq, List.mem_append, List.mem_singleton]
    constructor
    · rintro (h | h)
      · exact Or.inl h
      · exact Or.inr h.symm
    · rintro (h | h)
      · exact Or.inl h
      · exact Or.inr h.symm
theorem without_ok {g : JP} (hg : GOK g) {stones : Int32} {told touches has old beside slot : Nat → Int32} (hM : MR g stones told touches has old beside) {w : JW} (hW : WOK g w) (hS : SW slot 0 w) {m : Nat} (hm : m < 2 ^ 9) (fr fw : Int32) (free : Nat → Int32) : ∃ fr' fw' slot' free', fX10_without FU stones fr fw told touches beside slot free (nI m) = some (nI (waysN g (cwo w.1 m)), fr', fw', slot', free') ∧ ∀ j, j < 220 → slot' j = slot j := by
  obtain ⟨hn1, hn9, -, -⟩ := gn hg
  obtain ⟨s1, c1, cp⟩ := copies_ok (slot := slot) (a := 0) (b := 11) (F := FU) (by omega) (by omega) (by omega) (FU_ge (by omega))
  have hS1 := hS.cp (hW.len9 hg) cp
  have hfin : cwo w.1 m = fun s => if s < pn g ∧ m.testBit s = true then 0 else w.1 s := by
    funext s
    unfold cwo
    by_cases h : s < pn g
    · simp only [h, true_and]
    · simp only [h, false_and, if_false]
      rw [hW.1.2.1 s (by omega)]; split <;> rfl
  have hSC : SC (WS s1 (cwo w.1 m)) 11 (cwo w.1 m) := WS_SC _ _
  obtain ⟨free', hw⟩ := waysOf_ok hg hM (hW.1.1.co m) hSC fr fw free
  refine ⟨nI (zl (cwo w.1 m) (pn g) 0).length, fewI g (cwo w.1 m), WS s1 (cwo w.1 m), free', ?_, fun j hj => by rw [WS_kept (by omega)]; exact cp.2 j (by omega)⟩
  · unfold fX10_without
    rw [show (0 : Int32) = nI 0 from rfl, show (11 : Int32) = nI 11 from rfl, c1, Option.bind_some]
    unfold lX10_without_9
    refine jl_run5 (fun d x a b sl f => ∃ t, x = nI t ∧ t + d = pn g ∧ a = fr ∧ b = fw ∧ f = free ∧ sl = WS s1 (fun s => if s < t ∧ m.testBit s = true then 0 else w.1 s)) ?_ FU (pn g) _ _ _ _ _ ⟨0, rfl, by omega, rfl, rfl, rfl, ?_⟩ (FU_ge (by omega))
    · rintro d x a b sl f ⟨t, rfl, hd, rfl, rfl, rfl, rfl⟩
      rcases Nat.eq_zero_or_pos d with h0 | h0
      · left; intro k
        have : t = pn g := by omega
        subst this
        unfold bX10_without_9
        rw [hM.1, if_pos (by rw [nI_leI (by omega) (by omega)]; exact Nat.le_refl _), ← hfin, ← hM.1, hw]; rfl
      · right
        refine ⟨d - 1, _, _, _, _, _, by omega, ⟨t + 1, rfl, by omega, rfl, rfl, rfl, rfl⟩, ?_⟩
        intro k
        unfold bX10_without_9 fX10_without_49
        have ha : (220 : Int32) + nI t = nI (220 + t) := nI_add 220 t
        have a1 : ¬ (nI (220 + t) < 0 ∨ 240 ≤ 220 + t) := by
          rintro (q | q)
          · exact nI_pos (by omega) q
          · omega
        have hone : nI t + Int32.ofInt 1 = nI (t + 1) := nI_add t 1
        have hb : (nI m >>> (nI t &&& 31)) &&& 1 = nI (m.testBit t).toNat := ni_bit (by omega) (by omega)
        have hup : ∀ p, upc (fun s => if s < t ∧ m.testBit s = true then 0 else w.1 s) t p = fun s => if s = t then p else if s < t ∧ m.testBit s = true then 0 else w.1 s := fun p => rfl
        rw [hM.1, if_neg (by rw [nI_leI (by omega) (by omega)]; omega), hb, ha, nI_clamp (by omega), if_neg a1, if_neg a1]
        simp only [jl_let_eq]
        rw [hone, WS_in (by omega), show (0 : Int32) = nI 0 from rfl, show (1 : Int32) = nI 1 from rfl, WS_upd (by omega), WS_upd (by omega)]
        cases hbt : m.testBit t
        · rw [if_neg (by decide), if_neg (by exact a1)]
          refine congrArg (fun z => k (nI (t + 1)) a b (WS s1 z) f) ?_
          funext s
          unfold upc
          by_cases e : s = t
          · subst e; simp [hbt]
          · rw [if_neg e]
            have : (s < t + 1) ↔ (s < t) := by omega
            simp only [this]
        · rw [if_pos (by decide)]
          refine congrArg (fun z => k (nI (t + 1)) a b (WS s1 z) f) ?_
          funext s
          unfold upc
          by_cases e : s = t
          · subst e; simp [hbt]
          · rw [if_neg e]
            have : (s < t + 1) ↔ (s < t) := by omega
            simp only [this]
    · have : (fun s => if s < 0 ∧ m.testBit s = true then 0 else w.1 s) = w.1 := by funext s; simp
      rw [this, WS_self hS1.1]
def mtS (g : JP) (w : JW) : Nat := nb 9 (fun s => decide (s ∈ w.2.1) && decide (waysN g (cwo w.1 (2 ^ s)) ≠ 0))
theorem pw_sub {w : JW} {t : Nat} (h : t ∈ w.2.1) : ∀ s, (2 ^ t).testBit s = true → s ∈ w.2.1 := by
  intro s hs
  rw [Nat.testBit_two_pow] at hs
  have : t = s := by simpa using hs
  rw [← this]; exact h
theorem x_matters {g : JP} (hg : GOK g) {rows columns paints apart po0 po1 old shut : Int32} (hXU : XU g rows columns paints apart po0 po1 old shut) {all fc fit pg0 pg1 : Int32} {ro : Nat → Int32} (hX : XS g all fc fit pg0 pg1 ro) {w : JW} (hW : WOK g w) {F : Nat} (hF : 29 ≤ F) : fX8_mattering F old shut all fit ro (nI (wornS w.1)) = some (nI (if waysN g w.1 = 0 then mtS g w else 0)) := by
  obtain ⟨hn1, hn9, -, -⟩ := gn hg
  unfold fX8_mattering
  rw [hXU.2.2.2.2.2.2.2, x_canBeDone hg hX hW.1 hF, Option.bind_some]
  by_cases h0 : waysN g w.1 = 0
  · rw [if_pos h0, decide_eq_false (fun h => h h0), if_f, hXU.2.2.2.2.2.2.1, x_looseP hg hW, Option.bind_some]
    unfold lX8_mattering_27
    refine jl_run3 (fun d x y z => ∃ t, z = nI t ∧ t + d = 9 ∧ x = nI (frS w) ∧ y = nI (nb 9 (fun s => decide (s < t) && (decide (s ∈ w.2.1) && decide (waysN g (cwo w.1 (2 ^ s)) ≠ 0))))) ?_ F 9 _ _ _ ⟨0, rfl, rfl, rfl, by rw [nb_cong (g := fun _ => false) (fun i _ => by simp)]; rfl⟩ (by omega)
    rintro d x y z ⟨t, rfl, hd, rfl, rfl⟩
    rcases Nat.eq_zero_or_pos d with q0 | q0
    · left; intro k
      have : t = 9 := by omega
      subst this
      unfold bX8_mattering_27
      rw [if_pos (by decide)]
      refine congrArg (fun z => some (nI z)) (nb_cong (fun s hs => ?_))
      simp [hs]
    · right
      refine ⟨d - 1, _, _, _, by omega, ⟨t + 1, rfl, by omega, rfl, rfl⟩, ?_⟩
      intro k
      unfold bX8_mattering_27
      have hone : nI t + Int32.ofInt 1 = nI (t + 1) := nI_add t 1
      have hbit := fa_bit (n := frS w) (j := t) (by omega)
      have htb : (frS w).testBit t = decide (t ∈ w.2.1) := by
        unfold frS; rw [nb_tb]
        have : t < 9 := by omega
        simp [this]
      rw [htb] at hbit
      rw [if_neg (by rw [show (9 : Int32) = nI 9 from rfl, nI_leI (by omega) (by omega)]; omega), jl_let_eq, one_shl (by omega)]
      have step : ∀ v : Bool, (v = (decide (t ∈ w.2.1) && decide (waysN g (cwo w.1 (2 ^ t)) ≠ 0))) → nI (nb 9 (fun s => decide (s < t + 1) && (decide (s ∈ w.2.1) && decide (waysN g (cwo w.1 (2 ^ s)) ≠ 0)))) = nI (nb 9 (fun s => decide (s < t) && (decide (s ∈ w.2.1) && decide (waysN g (cwo w.1 (2 ^ s)) ≠ 0)))) ||| nI (if v = true then 2 ^ t else 0) := by
        intro v hv
        rw [ni_or]
        symm
        have h2t : 2 ^ t < 2 ^ 9 := Nat.pow_lt_pow_right (by omega) (by omega)
        refine congrArg nI (nb_ext (Nat.or_lt_two_pow (nb_lt _ _) (by split <;> omega)) (fun s hs => ?_))
        rw [Nat.testBit_or, nb_tb]
        by_cases e : s = t
        · subst e
          rw [← hv]
          cases v
          · simp
          · simp [Nat.testBit_two_pow]
        · have z : (if v = true then 2 ^ t else 0).testBit s = false := by
            split
            · rw [Nat.testBit_two_pow]; simp; omega
            · simp
          rw [z, Bool.or_false]
          have : decide (s < t) = decide (s < t + 1) := by apply decide_eq_decide.mpr; omega
          simp [hs, this]
      by_cases ht : t ∈ w.2.1
      · rw [if_neg (by rw [hbit]; simp [ht]), x_cwo (Nat.pow_lt_pow_right (by omega) (by omega)), Option.bind_some, x_canBeDone hg hX (hW.co hg (pw_sub ht)) hF, Option.bind_some]
        by_cases hz : waysN g (cwo w.1 (2 ^ t)) = 0
        · rw [decide_eq_false (fun h => h hz), if_f, jl_let_eq, hone, step false (by simp [hz]), ni_or, if_neg (by decide), Nat.or_zero]
        · rw [decide_eq_true hz, if_t]
          simp only [jl_let_eq]
          rw [hone, step true (by simp [ht, hz]), if_pos rfl]
      · rw [if_pos (hbit.mpr (decide_eq_false ht)), jl_let_eq, hone, step false (by simp [ht]), ni_or, if_neg (by decide), Nat.or_zero]
  · rw [if_neg h0, decide_eq_true h0, if_t]; rfl
theorem st_matters : St_matters Inv_ := by
  intro x_text_length x_text_bytes_ x_reader_at x_reader_first x_reader_second x_reader_stoneTold x_reader_paintTold x_wall_worn x_wall_turn x_wall_order x_wall_pastLength x_wall_heldLength x_wall_past_ x_wall_held_ x_row_length x_row_paintings_ x_game_known_ x_lot_above x_lot_below x_laid_rows x_laid_columns x_laid_paints x_laid_apart x_laid_paintsOf0 x_laid_paintsOf1 x_laid_old x_laid_shut x_laid_all x_laid_firstColumn x_laid_fitsAtFirst x_laid_paintingsOf0 x_laid_paintingsOf1 x_laid_ruledOut_ x_spare_rows x_spare_columns x_spare_paints x_spare_apart x_spare_paintsOf0 x_spare_paintsOf1 x_spare_old x_spare_shut x_spare_all x_spare_firstColumn x_spare_fitsAtFirst x_spare_paintingsOf0 x_spare_paintingsOf1 x_spare_ruledOut_ y_length y_at y_stones y_kept y_done y_rows y_frees y_fewest y_text_ y_told_ y_touches_ y_has_ y_old_ y_beside_ y_slot_ y_row_ y_free_ y_worth_ y_fore_ y_back_ y_got_
  intro hI
  replace hI : InvC x_text_length x_text_bytes_ x_reader_at x_reader_first x_reader_second x_reader_stoneTold x_reader_paintTold x_wall_worn x_wall_turn x_wall_order x_wall_pastLength x_wall_heldLength x_wall_past_ x_wall_held_ x_row_length x_row_paintings_ x_game_known_ x_lot_above x_lot_below x_laid_rows x_laid_columns x_laid_paints x_laid_apart x_laid_paintsOf0 x_laid_paintsOf1 x_laid_old x_laid_shut x_laid_all x_laid_firstColumn x_laid_fitsAtFirst x_laid_paintingsOf0 x_laid_paintingsOf1 x_laid_ruledOut_ x_spare_rows x_spare_columns x_spare_paints x_spare_apart x_spare_paintsOf0 x_spare_paintsOf1 x_spare_old x_spare_shut x_spare_all x_spare_firstColumn x_spare_fitsAtFirst x_spare_paintingsOf0 x_spare_paintingsOf1 x_spare_ruledOut_ y_length y_at y_stones y_kept y_done y_rows y_frees y_fewest y_text_ y_told_ y_touches_ y_has_ y_old_ y_beside_ y_slot_ y_row_ y_free_ y_worth_ y_fore_ y_back_ y_got_ := hI
  obtain ⟨g, w, d, ps, e, ks, r, rs, len, hg, hIT, hXU, hXS, hMR, hIW, hIP, hIH, hIR, hMem⟩ := hI
  obtain ⟨hn1, hn9, -, -⟩ := gn hg
  obtain ⟨hW, rfl, rfl, rfl, hSW⟩ := hIW
  obtain ⟨fr1, fw1, s1, free1, h1, k1⟩ := without_ok hg hMR hW hSW (m := 0) (by omega) y_frees y_fewest y_free_
  rw [cwo_0] at h1
  have hx := x_matters hg hXU hXS hW (F := FU) (FU_ge (by omega))
  suffices h : ∃ fr2 fw2 s2 free2, fX10_matters FU y_stones y_frees y_fewest y_told_ y_touches_ y_beside_ y_slot_ y_free_ = some (nI (if waysN g w.1 = 0 then mtS g w else 0), fr2, fw2, s2, free2) ∧ ∀ j, j < 220 → s2 j = y_slot_ j by
    obtain ⟨fr2, fw2, s2, free2, h2, k2⟩ := h
    refine ⟨nI (if waysN g w.1 = 0 then mtS g w else 0), (nI (if waysN g w.1 = 0 then mtS g w else 0), fr2, fw2, s2, free2), ?_, h2, Eq.refl (nI (if waysN g w.1 = 0 then mtS g w else 0)), ?_⟩
    · unfold fX9_matters
      rw [hx]; rfl
    · obtain ⟨z1, z2, z3⟩ := slot_low hg hW hSW hIP hIH k2
      exact ⟨g, w, d, ps, e, ks, r, rs, len, hg, hIT, hXU, hXS, hMR, ⟨hW, rfl, rfl, rfl, z1⟩, z2, z3, hIR, hMem⟩
  have hw9 := waysN_le hg w.1
  unfold fX10_matters
  rw [show (0 : Int32) = nI 0 from rfl, h1, Option.bind_some]
  dsimp only
  by_cases h0 : waysN g w.1 = 0
  · rw [if_pos h0, if_pos (by rw [h0])]
    have key : ∀ m t fr fw (sl free : Nat → Int32), t + m = pn g → (∀ j, j < 220 → sl j = y_slot_ j) → ∃ fr2 fw2 s2 free2, (∀ f, m < f → jl_loop6 (bX10_matters_12 FU y_stones y_told_ y_touches_ y_beside_) f (nI (nb 9 (fun s => decide (s < t) && (decide (s ∈ w.2.1) && decide (waysN g (cwo w.1 (2 ^ s)) ≠ 0))))) (nI t) fr fw sl free = some (nI (mtS g w), fr2, fw2, s2, free2)) ∧ ∀ j, j < 220 → s2 j = y_slot_ j := by
      intro m
      induction m with
      | zero =>
        intro t fr fw sl free ht hk
        refine ⟨fr, fw, sl, free, fun f hf => ?_, hk⟩
        obtain ⟨f', rfl⟩ : ∃ f', f = f' + 1 := ⟨f - 1, by omega⟩
        rw [jl_loop6_s]; unfold bX10_matters_12
        rw [hMR.1, if_pos (by rw [nI_leI (by omega) (by omega)]; omega)]
        refine congrArg (fun z => some (nI z, fr, fw, sl, free)) (nb_cong (fun s hs => ?_))
        by_cases q : s < t
        · simp [q]
        · have : ¬ s ∈ w.2.1 := fun e => by have := (hW.lt hg e).1; omega
          simp [this]
      | succ m ih =>
        intro t fr fw sl free ht hk
        have hone : nI t + Int32.ofInt 1 = nI (t + 1) := nI_add t 1
        have hSl : SW sl 0 w := hSW.kept (hW.len9 hg) (fun j _ j2 => hk j (by omega))
        have hfr := fresh_ok hg hW hSl (FU_ge (n := 10) (by omega))
        have htb : (frS w).testBit t = decide (t ∈ w.2.1) := by
          unfold frS; rw [nb_tb]
          have : t < 9 := by omega
          simp [this]
        have hb : (nI (frS w) >>> (nI t &&& 31)) &&& 1 = nI (decide (t ∈ w.2.1)).toNat := by
          rw [← htb]; exact ni_bit (by have := frS_lt w; omega) (by omega)
        have step : ∀ v : Bool, (v = (decide (t ∈ w.2.1) && decide (waysN g (cwo w.1 (2 ^ t)) ≠ 0))) → nI (nb 9 (fun s => decide (s < t + 1) && (decide (s ∈ w.2.1) && decide (waysN g (cwo w.1 (2 ^ s)) ≠ 0)))) = nI (nb 9 (fun s => decide (s < t) && (decide (s ∈ w.2.1) && decide (waysN g (cwo w.1 (2 ^ s)) ≠ 0)))) ||| nI (if v = true then 2 ^ t else 0) := by
          intro v hv
          rw [ni_or]
          symm
          have h2t : 2 ^ t < 2 ^ 9 := Nat.pow_lt_pow_right (by omega) (by omega)
          refine congrArg nI (nb_ext (Nat.or_lt_two_pow (nb_lt _ _) (by split <;> omega)) (fun s hs => ?_))
          rw [Nat.testBit_or, nb_tb]
          by_cases e : s = t
          · subst e
            rw [← hv]
            cases v
            · simp
            · simp [Nat.testBit_two_pow]
          · have z : (if v = true then 2 ^ t else 0).testBit s = false := by
              split
              · rw [Nat.testBit_two_pow]; simp; omega
              · simp
            rw [z, Bool.or_false]
            have : decide (s < t) = decide (s < t + 1) := by apply decide_eq_decide.mpr; omega
            simp [hs, this]
        by_cases hm : t ∈ w.2.1
        · obtain ⟨fr3, fw3, s3, free3, h3, k3⟩ := without_ok hg hMR hW hSl (m := 2 ^ t) (Nat.pow_lt_pow_right (by omega) (by omega)) fr fw free
          obtain ⟨fr2, fw2, s2, free2, h2, k2⟩ := ih (t + 1) fr3 fw3 s3 free3 (by omega) (fun j hj => by rw [k3 j hj]; exact hk j hj)
          refine ⟨fr2, fw2, s2, free2, fun f hf => ?_, k2⟩
          obtain ⟨f', rfl⟩ : ∃ f', f = f' + 1 := ⟨f - 1, by omega⟩
          have hr := h2 f' (by omega)
          rw [jl_loop6_s]
          generalize jl_loop6 (bX10_matters_12 FU y_stones y_told_ y_touches_ y_beside_) f' = K at hr ⊢
          unfold bX10_matters_12 fX10_matters_49 fX10_matters_50
          rw [if_neg (by rw [hMR.1, nI_leI (by omega) (by omega)]; omega), hfr, Option.bind_some, hb, decide_eq_true hm, if_pos (by decide), one_shl (by omega), h3, Option.bind_some]
          simp only [jl_let_eq, hone]
          have hwl := waysN_le hg (cwo w.1 (2 ^ t))
          by_cases hz : waysN g (cwo w.1 (2 ^ t)) = 0
          · rw [if_pos (by rw [hz]; decide)]
            rw [step false (by simp [hz]), if_neg (by decide)] at hr
            exact hr
          · rw [if_neg (by rw [show (0 : Int32) = nI 0 from rfl, nI_leI (by omega) (by omega)]; omega)]
            rw [step true (by simp [hm, hz]), if_pos rfl] at hr
            exact hr
        · obtain ⟨fr2, fw2, s2, free2, h2, k2⟩ := ih (t + 1) fr fw sl free (by omega) hk
          refine ⟨fr2, fw2, s2, free2, fun f hf => ?_, k2⟩
          obtain ⟨f', rfl⟩ : ∃ f', f = f' + 1 := ⟨f - 1, by omega⟩
          have hr := h2 f' (by omega)
          rw [jl_loop6_s]
          generalize jl_loop6 (bX10_matters_12 FU y_stones y_told_ y_touches_ y_beside_) f' = K at hr ⊢
          unfold bX10_matters_12 fX10_matters_49 fX10_matters_50
          rw [if_neg (by rw [hMR.1, nI_leI (by omega) (by omega)]; omega), hfr, Option.bind_some, hb, decide_eq_false hm, if_neg (by decide)]
          simp only [jl_let_eq, hone]
          rw [step false (by simp [hm]), if_neg (by decide)] at hr
          exact hr
    obtain ⟨fr2, fw2, s2, free2, h2, k2⟩ := key (pn g) 0 fr1 fw1 s1 free1 (by omega) k1
    refine ⟨fr2, fw2, s2, free2, ?_, k2⟩
    have := h2 FU (FU_ge (by omega))
    rw [nb_cong (g := fun _ => false) (fun i _ => by simp), show nb 9 (fun _ => false) = 0 from rfl] at this
    exact this
  · rw [if_neg h0, if_neg (by rw [nI_eq (by omega) (by omega)]; exact h0)]
    exact ⟨fr1, fw1, s1, free1, rfl, k1⟩
