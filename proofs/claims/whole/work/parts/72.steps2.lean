/-! calls that change the stand: painting, passing, undoing, keeping -/
theorem if_tn {α : Type} {X Y : Option α} : (if nI true.toNat = nI 0 then X else Y) = Y := if_neg (by decide)
theorem if_00 {α : Type} {X Y : Option α} : (if nI 0 = 0 then X else Y) = X := if_pos rfl
theorem enc_paint {w : JW} {s p : Nat} (h : PK w) (hs : s < 9) : ((lN (encO w.2.1)) <<< ((4 : Int32).toInt64 &&& 63)) ||| (nI s).toInt64 = lN (encO (paintW w s p).2.1) := by
  have h1 := h.enc
  rw [show (4 : Int32) = nI 4 from rfl, wb_shl (encO w.2.1) (k := 4) (by omega), nI_l (n := s) (by omega), Nat.mul_comm (encO w.2.1), fb_or_sumL _ (by omega)]
  congr 1
  show 2 ^ 4 * encO w.2.1 + s = encO (w.2.1 ++ [s])
  rw [encO_snoc]; omega
theorem worn_paint {c : Nat → Nat} {s p : Nat} (hs : s < 9) (h1 : 1 ≤ p) (h3 : p ≤ 3) (hz : c s = 0) : nI (wornS c) ||| nI (2 ^ (9 * (p - 1) + s)) = nI (wornS (upc c s p)) := by
  rw [ni_or, ← nbp_one hs h1 h3]
  unfold wornS
  rw [nbp_or]
  refine congrArg nI (nbp_cong (fun t q _ hq _ => ?_))
  unfold upc
  by_cases e : t = s
  · subst e
    rw [if_pos rfl, hz]
    have : ¬ 0 = q := by omega
    simp only [this, decide_false, Bool.false_or, true_and]
    exact decide_eq_decide.mpr eq_comm
  · rw [if_neg e]; simp [e]
theorem ch_bit {g : JP} {c : Nat → Nat} {t s p : Nat} (hs : s < 9) (h1 : 1 ≤ p) (h3 : p ≤ 3) : (nI (chS g c t) &&& nI (2 ^ (9 * (p - 1) + s)) = 0) ↔ mayG g c t s p = false := by
  rw [fa_bit (by omega)]
  unfold chS
  rw [nbp_tb hs h1 h3]; rfl
theorem turn_1 {t : Nat} (h : t ≤ 1) : (1 : Int32) - nI t = nI (1 - t) := pk_sub h
theorem note_inv {g : JP} (hg : GOK g) {w : JW} (hW : WOK g w) {d : Nat} {ps : Nat → JW} {xl : Int32} {past : Nat → Int64} {yd : Int32} {slot : Nat → Int32} (hSW : SW slot 0 w) (hP : IPa g d ps xl past yd slot) {F : Nat} (hF : 21 ≤ F) :
    ∃ past' slot', fX7_noteForUndo (nI (wornS w.1)) (nI w.2.2) (lN (encO w.2.1)) xl past = some (nI (pushD d), past') ∧ fX10_known F yd slot = some (nI (pushD d), slot') ∧ (∀ j, (j < 60 ∨ 220 ≤ j) → slot' j = slot j) ∧ IPa g (pushD d) (pushP d ps w) (nI (pushD d)) past' (nI (pushD d)) slot' := by
  obtain ⟨hd, rfl, rfl, hps⟩ := hP
  obtain ⟨past', h1, h2⟩ := x_note (hW.pk hg) hd (past := past) (ps := ps) (fun i hi => (hps i hi).1)
  obtain ⟨slot', k1, k2, k3⟩ := known_ok (hW.len9 hg) hSW hd hF (ps := ps) (fun i hi => ⟨(hps i hi).2.1, (hps i hi).2.2.len9 hg⟩)
  refine ⟨past', slot', h1, k1, k3, by unfold pushD; split <;> omega, rfl, rfl, fun i hi => ⟨h2 i hi, k2 i hi, ?_⟩⟩
  unfold pushP
  unfold pushD at hi
  split
  · next h8 =>
    rw [if_pos h8] at hi
    dsimp only
    split
    · exact hW
    · exact (hps i (by omega)).2.2
  · next h8 =>
    rw [if_neg h8] at hi
    dsimp only
    split
    · exact hW
    · exact (hps (i + 1) (by omega)).2.2
theorem held_kept {g : JP} (hg : GOK g) {e : Nat} {ks : Nat → JW} {xl : Int32} {xp : Nat → Int64} {yk : Int32} {slot slot' : Nat → Int32} (h : IHe g e ks xl xp yk slot) (hk : ∀ j, 20 ≤ j → j < 60 → slot' j = slot j) : IHe g e ks xl xp yk slot' := by
  obtain ⟨h1, h2, h3, h4⟩ := h
  exact ⟨h1, h2, h3, fun i hi => ⟨(h4 i hi).1, (h4 i hi).2.1.kept ((h4 i hi).2.2.len9 hg) (fun j j1 j2 => hk j (by omega) (by omega)), (h4 i hi).2.2⟩⟩
theorem past_kept {g : JP} (hg : GOK g) {d : Nat} {ps : Nat → JW} {xl : Int32} {xp : Nat → Int64} {yk : Int32} {slot slot' : Nat → Int32} (h : IPa g d ps xl xp yk slot) (hk : ∀ j, 60 ≤ j → j < 220 → slot' j = slot j) : IPa g d ps xl xp yk slot' := by
  obtain ⟨h1, h2, h3, h4⟩ := h
  exact ⟨h1, h2, h3, fun i hi => ⟨(h4 i hi).1, (h4 i hi).2.1.kept ((h4 i hi).2.2.len9 hg) (fun j j1 j2 => hk j (by omega) (by omega)), (h4 i hi).2.2⟩⟩
theorem st_paint : St_paint Inv_ := by
  intro x_text_length x_text_bytes_ x_reader_at x_reader_first x_reader_second x_reader_stoneTold x_reader_paintTold x_wall_worn x_wall_turn x_wall_order x_wall_pastLength x_wall_heldLength x_wall_past_ x_wall_held_ x_row_length x_row_paintings_ x_game_known_ x_lot_above x_lot_below x_laid_rows x_laid_columns x_laid_paints x_laid_apart x_laid_paintsOf0 x_laid_paintsOf1 x_laid_old x_laid_shut x_laid_all x_laid_firstColumn x_laid_fitsAtFirst x_laid_paintingsOf0 x_laid_paintingsOf1 x_laid_ruledOut_ x_spare_rows x_spare_columns x_spare_paints x_spare_apart x_spare_paintsOf0 x_spare_paintsOf1 x_spare_old x_spare_shut x_spare_all x_spare_firstColumn x_spare_fitsAtFirst x_spare_paintingsOf0 x_spare_paintingsOf1 x_spare_ruledOut_ y_length y_at y_stones y_kept y_done y_rows y_frees y_fewest y_text_ y_told_ y_touches_ y_has_ y_old_ y_beside_ y_slot_ y_row_ y_free_ y_worth_ y_fore_ y_back_ y_got_
  intro p1 p2 hI
  have hI0 := hI
  replace hI : InvC x_text_length x_text_bytes_ x_reader_at x_reader_first x_reader_second x_reader_stoneTold x_reader_paintTold x_wall_worn x_wall_turn x_wall_order x_wall_pastLength x_wall_heldLength x_wall_past_ x_wall_held_ x_row_length x_row_paintings_ x_game_known_ x_lot_above x_lot_below x_laid_rows x_laid_columns x_laid_paints x_laid_apart x_laid_paintsOf0 x_laid_paintsOf1 x_laid_old x_laid_shut x_laid_all x_laid_firstColumn x_laid_fitsAtFirst x_laid_paintingsOf0 x_laid_paintingsOf1 x_laid_ruledOut_ x_spare_rows x_spare_columns x_spare_paints x_spare_apart x_spare_paintsOf0 x_spare_paintsOf1 x_spare_old x_spare_shut x_spare_all x_spare_firstColumn x_spare_fitsAtFirst x_spare_paintingsOf0 x_spare_paintingsOf1 x_spare_ruledOut_ y_length y_at y_stones y_kept y_done y_rows y_frees y_fewest y_text_ y_told_ y_touches_ y_has_ y_old_ y_beside_ y_slot_ y_row_ y_free_ y_worth_ y_fore_ y_back_ y_got_ := hI
  obtain ⟨g, w, d, ps, e, ks, r, rs, len, hg, hIT, hXU, hXS, hMR, hIW, hIP, hIH, hIR, hMem⟩ := hI
  obtain ⟨hn1, hn9, hR9, hC9⟩ := gn hg
  have hP3 := hg.2.2.2.2.1
  obtain ⟨hW, rfl, rfl, rfl, hSW⟩ := hIW
  have hx := x_hasStone hn9 hR9 hC9 p1
  have hx2 := x_hasPaint hP3 p2
  cases e1 : isN p1 (pn g)
  · refine ⟨((-1 : Int32), nI (wornS w.1), nI w.2.2, lN (encO w.2.1), x_wall_pastLength, x_wall_past_), ((-1 : Int32), y_done, y_slot_), ?_, ?_, Eq.refl (-1 : Int32), hI0⟩
    · unfold fX9_paint
      rw [hXU.1, hXU.2.1, hx, show pR g * pC g = pn g from rfl, e1]; rfl
    · unfold fX10_paint
      rw [hMR.1, isStone_ok hn1 hn9, e1]; rfl
  · obtain ⟨s, hs, -, rfl⟩ := isN_iff.mp e1
    cases e2 : isP p2 (pP g)
    · refine ⟨((-1 : Int32), nI (wornS w.1), nI w.2.2, lN (encO w.2.1), x_wall_pastLength, x_wall_past_), ((-1 : Int32), y_done, y_slot_), ?_, ?_, Eq.refl (-1 : Int32), hI0⟩
      · unfold fX9_paint
        rw [hXU.1, hXU.2.1, hx, show pR g * pC g = pn g from rfl, e1, Option.bind_some, if_t, hXU.2.2.1, hx2, e2]; rfl
      · unfold fX10_paint
        rw [hMR.1, isStone_ok hn1 hn9, e1, Option.bind_some, if_t, isPaint_ok hP3 hMR.2.1.2.2, e2]; rfl
    · obtain ⟨p, q1, q2, rfl⟩ := (isP_iff hP3).mp e2
      have hch := choices_ok hg hXS hW.1 hW.2.1 (FU_ge (n := 29) (by omega))
      have hbit := ch_bit (g := g) (c := w.1) (t := w.2.2) (s := s) (p := p) (by omega) q1 (by omega)
      have hmay := isMay_ok hg hMR hW.1.1 (k := 0) (by omega) hSW hs hW.2.1 q1 (by omega) (FU_ge (n := 10) (by omega))
      have hG : mayG g w.1 w.2.2 s p = mayA g w.1 w.2.2 s p := by simp [mayG, hs]
      rw [hG] at hbit
      cases hm : mayA g w.1 w.2.2 s p
      · refine ⟨((-2 : Int32), nI (wornS w.1), nI w.2.2, lN (encO w.2.1), x_wall_pastLength, x_wall_past_), ((-2 : Int32), y_done, y_slot_), ?_, ?_, Eq.refl (-2 : Int32), hI0⟩
        · unfold fX9_paint
          rw [hXU.1, hXU.2.1, hx, show pR g * pC g = pn g from rfl, e1, Option.bind_some, if_t, hXU.2.2.1, hx2, e2, Option.bind_some, if_t, x_painting (by omega) q1 (by omega), Option.bind_some, hch, Option.bind_some, if_pos (hbit.mpr hm)]
        · unfold fX10_paint
          rw [hMR.1, isStone_ok hn1 hn9, e1, Option.bind_some, if_t, isPaint_ok hP3 hMR.2.1.2.2, e2, Option.bind_some, if_t, ← hMR.1, show (0 : Int32) = nI 0 from rfl, hmay, hm]; rfl
      · obtain ⟨past', slot1, n1, n2, n3, n4⟩ := note_inv hg hW hSW hIP (FU_ge (n := 21) (by omega))
        have hz := (may_le hg hm).2.2
        have hW' := hW.paint hg hs hm
        have hSW1 : SW slot1 0 w := hSW.kept (hW.len9 hg) (fun j _ j2 => n3 j (by omega))
        have hlen : w.2.1.length < 9 := by
          have := hW'.len9 hg
          have e : (paintW w s p).2.1.length = w.2.1.length + 1 := by simp [paintW]
          omega
        obtain ⟨slot2, s1, s2, s3⟩ := paints_ok (k := 0) (p := p) (by omega) hSW1 hlen hW.2.1 (show s < 9 by omega)
        have hpt := painted_ok hg hMR.1 (k := 0) (by omega) s2.1 hW'.1 (FU_ge (n := 10) (by omega))
        refine ⟨(nI (ptd (upc w.1 s p)), nI (wornS (upc w.1 s p)), nI (1 - w.2.2), lN (encO (paintW w s p).2.1), nI (pushD d), past'), (nI (ptd (upc w.1 s p)), nI (pushD d), slot2), ?_, ?_, Eq.refl (nI (ptd (upc w.1 s p))), ?_⟩
        · unfold fX9_paint fX7_put
          rw [hXU.1, hXU.2.1, hx, show pR g * pC g = pn g from rfl, e1, Option.bind_some, if_t, hXU.2.2.1, hx2, e2, Option.bind_some, if_t, x_painting (by omega) q1 (by omega), Option.bind_some, hch, Option.bind_some, if_neg (fun e => by rw [hbit.mp e] at hm; cases hm), n1]
          simp only [Option.bind_some, jl_let_eq]
          rw [worn_paint (by omega) q1 (by omega) hz, enc_paint (p := p) (hW.pk hg) (by omega), turn_1 hW.2.1, x_ptd]
          rfl
        · unfold fX10_paint
          rw [hMR.1, isStone_ok hn1 hn9, e1, Option.bind_some, if_t, isPaint_ok hP3 hMR.2.1.2.2, e2, Option.bind_some, if_t, ← hMR.1, show (0 : Int32) = nI 0 from rfl, hmay, hm, Option.bind_some, if_tn, n2, Option.bind_some]
          simp only [s1, Option.bind_some]
          rw [hpt]; rfl
        · have q1 := past_kept (slot' := slot2) hg n4 (fun j j1 _ => s3 j (by omega))
          have q2 := held_kept (slot' := slot2) hg hIH (fun j j1 j2 => by rw [s3 j (by omega), n3 j (by omega)])
          exact ⟨g, paintW w s p, pushD d, pushP d ps w, e, ks, r, rs, len, hg, hIT, hXU, hXS, hMR, ⟨hW', rfl, rfl, rfl, s2⟩, q1, q2, hIR, hMem⟩
theorem st_pass : St_pass Inv_ := by
  intro x_text_length x_text_bytes_ x_reader_at x_reader_first x_reader_second x_reader_stoneTold x_reader_paintTold x_wall_worn x_wall_turn x_wall_order x_wall_pastLength x_wall_heldLength x_wall_past_ x_wall_held_ x_row_length x_row_paintings_ x_game_known_ x_lot_above x_lot_below x_laid_rows x_laid_columns x_laid_paints x_laid_apart x_laid_paintsOf0 x_laid_paintsOf1 x_laid_old x_laid_shut x_laid_all x_laid_firstColumn x_laid_fitsAtFirst x_laid_paintingsOf0 x_laid_paintingsOf1 x_laid_ruledOut_ x_spare_rows x_spare_columns x_spare_paints x_spare_apart x_spare_paintsOf0 x_spare_paintsOf1 x_spare_old x_spare_shut x_spare_all x_spare_firstColumn x_spare_fitsAtFirst x_spare_paintingsOf0 x_spare_paintingsOf1 x_spare_ruledOut_ y_length y_at y_stones y_kept y_done y_rows y_frees y_fewest y_text_ y_told_ y_touches_ y_has_ y_old_ y_beside_ y_slot_ y_row_ y_free_ y_worth_ y_fore_ y_back_ y_got_
  intro hI
  have hI0 := hI
  replace hI : InvC x_text_length x_text_bytes_ x_reader_at x_reader_first x_reader_second x_reader_stoneTold x_reader_paintTold x_wall_worn x_wall_turn x_wall_order x_wall_pastLength x_wall_heldLength x_wall_past_ x_wall_held_ x_row_length x_row_paintings_ x_game_known_ x_lot_above x_lot_below x_laid_rows x_laid_columns x_laid_paints x_laid_apart x_laid_paintsOf0 x_laid_paintsOf1 x_laid_old x_laid_shut x_laid_all x_laid_firstColumn x_laid_fitsAtFirst x_laid_paintingsOf0 x_laid_paintingsOf1 x_laid_ruledOut_ x_spare_rows x_spare_columns x_spare_paints x_spare_apart x_spare_paintsOf0 x_spare_paintsOf1 x_spare_old x_spare_shut x_spare_all x_spare_firstColumn x_spare_fitsAtFirst x_spare_paintingsOf0 x_spare_paintingsOf1 x_spare_ruledOut_ y_length y_at y_stones y_kept y_done y_rows y_frees y_fewest y_text_ y_told_ y_touches_ y_has_ y_old_ y_beside_ y_slot_ y_row_ y_free_ y_worth_ y_fore_ y_back_ y_got_ := hI
  obtain ⟨g, w, d, ps, e, ks, r, rs, len, hg, hIT, hXU, hXS, hMR, hIW, hIP, hIH, hIR, hMem⟩ := hI
  obtain ⟨hW, rfl, rfl, rfl, hSW⟩ := hIW
  have hch := choices_ok hg hXS hW.1 hW.2.1 (FU_ge (n := 29) (by omega))
  have hms := mays_ok hg hMR hW.1.1 (k := 0) (by omega) hSW hW.2.1 (FU_ge (n := 12) (by omega))
  have hle := chC_le g w.1 w.2.2
  have hz := chS_zero g w.1 w.2.2
  have hcl := chS_lt31 g w.1 w.2.2
  by_cases h0 : chC g w.1 w.2.2 = 0
  · obtain ⟨past', slot1, n1, n2, n3, n4⟩ := note_inv hg hW hSW hIP (FU_ge (n := 21) (by omega))
    have e19 : slot1 19 = nI w.2.2 := by
      rw [n3 19 (by omega)]; exact hSW.2.2.2
    have hW' : WOK g (w.1, w.2.1, 1 - w.2.2) := ⟨hW.1, by show 1 - w.2.2 ≤ 1; omega, hW.2.2.1, hW.2.2.2.1, hW.2.2.2.2.1, hW.2.2.2.2.2⟩
    refine ⟨(nI (1 - w.2.2), nI (1 - w.2.2), nI (pushD d), past'), (nI (1 - w.2.2), nI (pushD d), upd slot1 19 (nI (1 - w.2.2))), ?_, ?_, Eq.refl (nI (1 - w.2.2)), ?_⟩
    · unfold fX9_pass fX7_skip
      rw [hch, Option.bind_some, hz.mpr h0, if_00, n1]
      simp only [Option.bind_some, jl_let_eq, turn_1 hW.2.1]
    · unfold fX10_pass
      rw [show (0 : Int32) = nI 0 from rfl, hms, Option.bind_some, h0, if_pos (by decide), n2]
      simp only [Option.bind_some, jl_let_eq, c19, e19, turn_1 hW.2.1]
      rw [upd_s rfl]
    · have hS' : SW (upd slot1 19 (nI (1 - w.2.2))) 0 (w.1, w.2.1, 1 - w.2.2) := by
        obtain ⟨a1, a2, a3, a4⟩ := hSW
        have hl := hW.len9 hg
        refine ⟨fun s hs => ?_, fun i hi => ?_, ?_, ?_⟩
        · rw [upd_n (by omega), n3 _ (by omega)]; exact a1 s hs
        · have : i < w.2.1.length := hi
          rw [upd_n (by omega), n3 _ (by omega)]; exact a2 i hi
        · rw [upd_n (by omega), n3 _ (by omega)]; exact a3
        · rw [upd_s rfl]
      have q1 := past_kept (slot' := upd slot1 19 (nI (1 - w.2.2))) hg n4 (fun j j1 _ => upd_n (by omega))
      have q2 := held_kept (slot' := upd slot1 19 (nI (1 - w.2.2))) hg hIH (fun j j1 j2 => by rw [upd_n (by omega), n3 j (by omega)])
      exact ⟨g, (w.1, w.2.1, 1 - w.2.2), pushD d, pushP d ps w, e, ks, r, rs, len, hg, hIT, hXU, hXS, hMR, ⟨hW', rfl, rfl, rfl, hS'⟩, q1, q2, hIR, hMem⟩
  · refine ⟨((-2 : Int32), nI w.2.2, x_wall_pastLength, x_wall_past_), ((-2 : Int32), y_done, y_slot_), ?_, ?_, Eq.refl (-2 : Int32), hI0⟩
    · unfold fX9_pass
      rw [hch, Option.bind_some, if_neg]
      rw [show (0 : Int32) = nI 0 from rfl, nI_eq hcl (by omega), hz]; exact h0
    · unfold fX10_pass
      rw [show (0 : Int32) = nI 0 from rfl, hms, Option.bind_some, if_neg]
      rw [nI_leI (by omega) (by omega)]; omega
theorem st_undo : St_undo Inv_ := by
  intro x_text_length x_text_bytes_ x_reader_at x_reader_first x_reader_second x_reader_stoneTold x_reader_paintTold x_wall_worn x_wall_turn x_wall_order x_wall_pastLength x_wall_heldLength x_wall_past_ x_wall_held_ x_row_length x_row_paintings_ x_game_known_ x_lot_above x_lot_below x_laid_rows x_laid_columns x_laid_paints x_laid_apart x_laid_paintsOf0 x_laid_paintsOf1 x_laid_old x_laid_shut x_laid_all x_laid_firstColumn x_laid_fitsAtFirst x_laid_paintingsOf0 x_laid_paintingsOf1 x_laid_ruledOut_ x_spare_rows x_spare_columns x_spare_paints x_spare_apart x_spare_paintsOf0 x_spare_paintsOf1 x_spare_old x_spare_shut x_spare_all x_spare_firstColumn x_spare_fitsAtFirst x_spare_paintingsOf0 x_spare_paintingsOf1 x_spare_ruledOut_ y_length y_at y_stones y_kept y_done y_rows y_frees y_fewest y_text_ y_told_ y_touches_ y_has_ y_old_ y_beside_ y_slot_ y_row_ y_free_ y_worth_ y_fore_ y_back_ y_got_
  intro hI
  have hI0 := hI
  replace hI : InvC x_text_length x_text_bytes_ x_reader_at x_reader_first x_reader_second x_reader_stoneTold x_reader_paintTold x_wall_worn x_wall_turn x_wall_order x_wall_pastLength x_wall_heldLength x_wall_past_ x_wall_held_ x_row_length x_row_paintings_ x_game_known_ x_lot_above x_lot_below x_laid_rows x_laid_columns x_laid_paints x_laid_apart x_laid_paintsOf0 x_laid_paintsOf1 x_laid_old x_laid_shut x_laid_all x_laid_firstColumn x_laid_fitsAtFirst x_laid_paintingsOf0 x_laid_paintingsOf1 x_laid_ruledOut_ x_spare_rows x_spare_columns x_spare_paints x_spare_apart x_spare_paintsOf0 x_spare_paintsOf1 x_spare_old x_spare_shut x_spare_all x_spare_firstColumn x_spare_fitsAtFirst x_spare_paintingsOf0 x_spare_paintingsOf1 x_spare_ruledOut_ y_length y_at y_stones y_kept y_done y_rows y_frees y_fewest y_text_ y_told_ y_touches_ y_has_ y_old_ y_beside_ y_slot_ y_row_ y_free_ y_worth_ y_fore_ y_back_ y_got_ := hI
  obtain ⟨g, w, d, ps, e, ks, r, rs, len, hg, hIT, hXU, hXS, hMR, hIW, hIP, hIH, hIR, hMem⟩ := hI
  obtain ⟨hW, rfl, rfl, rfl, hSW⟩ := hIW
  obtain ⟨hd, rfl, rfl, hps⟩ := hIP
  rcases Nat.eq_zero_or_pos d with h0 | h0
  · subst h0
    refine ⟨((-2 : Int32), nI (wornS w.1), nI w.2.2, lN (encO w.2.1), nI 0), ((-2 : Int32), nI 0, y_slot_), ?_, ?_, Eq.refl (-2 : Int32), hI0⟩
    · unfold fX9_undo fX7_stepBack
      simp only [jl_let_eq]
      rw [if_pos (by decide)]; rfl
    · unfold fX10_undo
      rw [if_pos (by decide)]
  · obtain ⟨q, rfl⟩ : ∃ q, d = q + 1 := ⟨d - 1, by omega⟩
    obtain ⟨p1, p2, p3⟩ := hps q (by omega)
    obtain ⟨slot', c1, c2⟩ := copies_ok (slot := y_slot_) (a := 3 + q) (b := 0) (F := FU) (by omega) (by omega) (by omega) (FU_ge (by omega))
    have e1 : nI (q + 1) - (1 : Int32) = nI q := nI_pred q
    refine ⟨(nI q, nI (wornS (ps q).1), nI (ps q).2.2, lN (encO (ps q).2.1), nI q), (nI q, nI q, slot'), ?_, ?_, Eq.refl (nI q), ?_⟩
    · unfold fX9_undo fX7_stepBack
      have a0 : ¬ 8 ≤ q := by omega
      have a1 : q < 8 := by omega
      simp only [jl_let_eq, e1]
      simp (disch := omega) only [fa_lit, ni_bit, b2n_0, b2n_1, ni_m1, ni_of1, ni_ofm1, nI_add, pk_mul, nI_clamp, ni_lt, ni_le, ni_eq, ni_l, fa_litL, ln_le, ln_lt, ln_eq, jl_let_eq, Option.bind_some, ↓reduceIte, a0, a1, Nat.not_lt_zero, or_self, p1, x_standAs (p3.pk hg)]
    · unfold fX10_undo
      simp only [jl_let_eq, e1]
      rw [if_neg (by rw [show (0 : Int32) = nI 0 from rfl, nI_eq (by omega) (by omega)]; omega)]
      rw [show (3 : Int32) = nI 3 from rfl, nI_add, show (0 : Int32) = nI 0 from rfl, c1]; rfl
    · have q2 := held_kept (slot' := slot') hg hIH (fun j j1 j2 => c2.2 j (by omega))
      have q3 := p2.cp (p3.len9 hg) c2
      have q4 : IPa g q ps (nI q) x_wall_past_ (nI q) slot' := ⟨by omega, rfl, rfl, fun i hi => ⟨(hps i (by omega)).1, (hps i (by omega)).2.1.other ((hps i (by omega)).2.2.len9 hg) c2 (by omega), (hps i (by omega)).2.2⟩⟩
      exact ⟨g, ps q, q, ps, e, ks, r, rs, len, hg, hIT, hXU, hXS, hMR, ⟨p3, rfl, rfl, rfl, q3⟩, q4, q2, hIR, hMem⟩
theorem st_keep : St_keep Inv_ := by
  intro x_text_length x_text_bytes_ x_reader_at x_reader_first x_reader_second x_reader_stoneTold x_reader_paintTold x_wall_worn x_wall_turn x_wall_order x_wall_pastLength x_wall_heldLength x_wall_past_ x_wall_held_ x_row_length x_row_paintings_ x_game_known_ x_lot_above x_lot_below x_laid_rows x_laid_columns x_laid_paints x_laid_apart x_laid_paintsOf0 x_laid_paintsOf1 x_laid_old x_laid_shut x_laid_all x_laid_firstColumn x_laid_fitsAtFirst x_laid_paintingsOf0 x_laid_paintingsOf1 x_laid_ruledOut_ x_spare_rows x_spare_columns x_spare_paints x_spare_apart x_spare_paintsOf0 x_spare_paintsOf1 x_spare_old x_spare_shut x_spare_all x_spare_firstColumn x_spare_fitsAtFirst x_spare_paintingsOf0 x_spare_paintingsOf1 x_spare_ruledOut_ y_length y_at y_stones y_kept y_done y_rows y_frees y_fewest y_text_ y_told_ y_touches_ y_has_ y_old_ y_beside_ y_slot_ y_row_ y_free_ y_worth_ y_fore_ y_back_ y_got_
  intro hI
  have hI0 := hI
  replace hI : InvC x_text_length x_text_bytes_ x_reader_at x_reader_first x_reader_second x_reader_stoneTold x_reader_paintTold x_wall_worn x_wall_turn x_wall_order x_wall_pastLength x_wall_heldLength x_wall_past_ x_wall_held_ x_row_length x_row_paintings_ x_game_known_ x_lot_above x_lot_below x_laid_rows x_laid_columns x_laid_paints x_laid_apart x_laid_paintsOf0 x_laid_paintsOf1 x_laid_old x_laid_shut x_laid_all x_laid_firstColumn x_laid_fitsAtFirst x_laid_paintingsOf0 x_laid_paintingsOf1 x_laid_ruledOut_ x_spare_rows x_spare_columns x_spare_paints x_spare_apart x_spare_paintsOf0 x_spare_paintsOf1 x_spare_old x_spare_shut x_spare_all x_spare_firstColumn x_spare_fitsAtFirst x_spare_paintingsOf0 x_spare_paintingsOf1 x_spare_ruledOut_ y_length y_at y_stones y_kept y_done y_rows y_frees y_fewest y_text_ y_told_ y_touches_ y_has_ y_old_ y_beside_ y_slot_ y_row_ y_free_ y_worth_ y_fore_ y_back_ y_got_ := hI
  obtain ⟨g, w, d, ps, e, ks, r, rs, len, hg, hIT, hXU, hXS, hMR, hIW, hIP, hIH, hIR, hMem⟩ := hI
  obtain ⟨hW, rfl, rfl, rfl, hSW⟩ := hIW
  obtain ⟨he, rfl, rfl, hks⟩ := hIH
  by_cases h2 : e = 2
  · subst h2
    refine ⟨((-3 : Int32), nI 2, x_wall_held_), ((-3 : Int32), nI 2, y_slot_), ?_, ?_, Eq.refl (-3 : Int32), hI0⟩
    · unfold fX9_keep fX7_hold
      rw [if_neg (by decide), if_neg (by decide)]; rfl
    · unfold fX10_keep
      rw [if_pos (by decide)]
  · have e2 : e < 2 := by omega
    obtain ⟨slot', c1, c2⟩ := copies_ok (slot := y_slot_) (a := 0) (b := e + 1) (F := FU) (by omega) (by omega) (by omega) (FU_ge (by omega))
    refine ⟨(nI (e + 1), nI (e + 1), vp_updL x_wall_held_ e (lN (pack w))), (nI (e + 1), nI (e + 1), slot'), ?_, ?_, Eq.refl (nI (e + 1)), ?_⟩
    · unfold fX9_keep fX7_hold
      have a0 : ¬ 2 ≤ e := by omega
      simp (disch := omega) only [fa_lit, ni_bit, b2n_0, b2n_1, ni_m1, ni_of1, ni_ofm1, nI_add, pk_mul, nI_clamp, ni_lt, ni_le, ni_eq, ni_l, fa_litL, ln_le, ln_lt, ln_eq, jl_let_eq, Option.bind_some, ↓reduceIte, a0, e2, Nat.not_lt_zero, or_self, x_packed (hW.pk hg)]
    · unfold fX10_keep
      rw [if_neg (by rw [show (2 : Int32) = nI 2 from rfl, nI_eq (by omega) (by omega)]; exact h2)]
      simp only [jl_let_eq]
      rw [show (1 : Int32) = nI 1 from rfl, nI_add, show (0 : Int32) = nI 0 from rfl, c1]; rfl
    · have q1 := past_kept (slot' := slot') hg hIP (fun j j1 _ => c2.2 j (by omega))
      have q3 := hSW.other (hW.len9 hg) c2 (by omega)
      refine ⟨g, w, d, ps, e + 1, fun i => if i = e then w else ks i, r, rs, len, hg, hIT, hXU, hXS, hMR, ⟨hW, rfl, rfl, rfl, q3⟩, q1, ⟨by omega, rfl, rfl, fun i hi => ?_⟩, hIR, hMem⟩
      show vp_updL x_wall_held_ e (lN (pack w)) i = lN (pack (if i = e then w else ks i)) ∧ SW slot' (1 + i) (if i = e then w else ks i) ∧ WOK g (if i = e then w else ks i)
      by_cases ei : i = e
      · subst ei
        simp only [if_true]
        refine ⟨updL_s rfl, ?_, hW⟩
        rw [Nat.add_comm 1 i]; exact hSW.cp (hW.len9 hg) c2
      · simp only [ei, if_false]
        have hk := hks i (by omega)
        exact ⟨by rw [updL_n ei]; exact hk.1, hk.2.1.other (hk.2.2.len9 hg) c2 (by omega), hk.2.2⟩
theorem st_back : St_back Inv_ := by
  intro x_text_length x_text_bytes_ x_reader_at x_reader_first x_reader_second x_reader_stoneTold x_reader_paintTold x_wall_worn x_wall_turn x_wall_order x_wall_pastLength x_wall_heldLength x_wall_past_ x_wall_held_ x_row_length x_row_paintings_ x_game_known_ x_lot_above x_lot_below x_laid_rows x_laid_columns x_laid_paints x_laid_apart x_laid_paintsOf0 x_laid_paintsOf1 x_laid_old x_laid_shut x_laid_all x_laid_firstColumn x_laid_fitsAtFirst x_laid_paintingsOf0 x_laid_paintingsOf1 x_laid_ruledOut_ x_spare_rows x_spare_columns x_spare_paints x_spare_apart x_spare_paintsOf0 x_spare_paintsOf1 x_spare_old x_spare_shut x_spare_all x_spare_firstColumn x_spare_fitsAtFirst x_spare_paintingsOf0 x_spare_paintingsOf1 x_spare_ruledOut_ y_length y_at y_stones y_kept y_done y_rows y_frees y_fewest y_text_ y_told_ y_touches_ y_has_ y_old_ y_beside_ y_slot_ y_row_ y_free_ y_worth_ y_fore_ y_back_ y_got_
  intro hI
  have hI0 := hI
  replace hI : InvC x_text_length x_text_bytes_ x_reader_at x_reader_first x_reader_second x_reader_stoneTold x_reader_paintTold x_wall_worn x_wall_turn x_wall_order x_wall_pastLength x_wall_heldLength x_wall_past_ x_wall_held_ x_row_length x_row_paintings_ x_game_known_ x_lot_above x_lot_below x_laid_rows x_laid_columns x_laid_paints x_laid_apart x_laid_paintsOf0 x_laid_paintsOf1 x_laid_old x_laid_shut x_laid_all x_laid_firstColumn x_laid_fitsAtFirst x_laid_paintingsOf0 x_laid_paintingsOf1 x_laid_ruledOut_ x_spare_rows x_spare_columns x_spare_paints x_spare_apart x_spare_paintsOf0 x_spare_paintsOf1 x_spare_old x_spare_shut x_spare_all x_spare_firstColumn x_spare_fitsAtFirst x_spare_paintingsOf0 x_spare_paintingsOf1 x_spare_ruledOut_ y_length y_at y_stones y_kept y_done y_rows y_frees y_fewest y_text_ y_told_ y_touches_ y_has_ y_old_ y_beside_ y_slot_ y_row_ y_free_ y_worth_ y_fore_ y_back_ y_got_ := hI
  obtain ⟨g, w, d, ps, e, ks, r, rs, len, hg, hIT, hXU, hXS, hMR, hIW, hIP, hIH, hIR, hMem⟩ := hI
  obtain ⟨hW, rfl, rfl, rfl, hSW⟩ := hIW
  obtain ⟨he, rfl, rfl, hks⟩ := hIH
  rcases Nat.eq_zero_or_pos e with h0 | h0
  · subst h0
    refine ⟨((-2 : Int32), nI (wornS w.1), nI w.2.2, lN (encO w.2.1), x_wall_pastLength, nI 0), ((-2 : Int32), nI 0, y_done, y_slot_), ?_, ?_, Eq.refl (-2 : Int32), hI0⟩
    · unfold fX9_back fX7_takeHeld
      simp only [jl_let_eq]
      rw [if_pos (by decide)]; rfl
    · unfold fX10_back
      rw [if_pos (by decide)]
  · obtain ⟨q, rfl⟩ : ∃ q, e = q + 1 := ⟨e - 1, by omega⟩
    obtain ⟨p1, p2, p3⟩ := hks q (by omega)
    rw [Nat.add_comm 1 q] at p2
    obtain ⟨slot', c1, c2⟩ := copies_ok (slot := y_slot_) (a := q + 1) (b := 0) (F := FU) (by omega) (by omega) (by omega) (FU_ge (by omega))
    have e1 : nI (q + 1) - (1 : Int32) = nI q := nI_pred q
    refine ⟨(nI q, nI (wornS (ks q).1), nI (ks q).2.2, lN (encO (ks q).2.1), 0, nI q), (nI q, nI q, 0, slot'), ?_, ?_, Eq.refl (nI q), ?_⟩
    · unfold fX9_back fX7_takeHeld
      have a0 : ¬ 2 ≤ q := by omega
      have a1 : q < 2 := by omega
      simp only [jl_let_eq, e1]
      simp (disch := omega) only [fa_lit, ni_bit, b2n_0, b2n_1, ni_m1, ni_of1, ni_ofm1, nI_add, pk_mul, nI_clamp, ni_lt, ni_le, ni_eq, ni_l, fa_litL, ln_le, ln_lt, ln_eq, jl_let_eq, Option.bind_some, ↓reduceIte, a0, a1, Nat.not_lt_zero, or_self, p1, x_standAs (p3.pk hg)]
    · unfold fX10_back
      rw [if_neg (by rw [show (0 : Int32) = nI 0 from rfl, nI_eq (by omega) (by omega)]; omega)]
      rw [show (0 : Int32) = nI 0 from rfl, c1]
      simp only [jl_let_eq, Option.bind_some, e1]
    · have q3 := p2.cp (p3.len9 hg) c2
      have q2 : IHe g q ks (nI q) x_wall_held_ (nI q) slot' := ⟨by omega, rfl, rfl, fun i hi => ⟨(hks i (by omega)).1, (hks i (by omega)).2.1.other ((hks i (by omega)).2.2.len9 hg) c2 (by omega), (hks i (by omega)).2.2⟩⟩
      have q4 : IPa g 0 ps 0 x_wall_past_ 0 slot' := ⟨by omega, rfl, rfl, fun i hi => absurd hi (Nat.not_lt_zero i)⟩
      exact ⟨g, ks q, 0, ps, q, ks, r, rs, len, hg, hIT, hXU, hXS, hMR, ⟨p3, rfl, rfl, rfl, q3⟩, q4, q2, hIR, hMem⟩
