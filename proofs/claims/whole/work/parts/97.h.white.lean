/-! white -/
theorem p1_of {x : Int32} (h : isN x 2 = true) : ∃ wi, wi ≤ 1 ∧ x = nI wi ∧ p1of wi = x := by
  rcases isN2 h with rfl | rfl
  · exact ⟨0, by omega, rfl, rfl⟩
  · exact ⟨1, by omega, rfl, rfl⟩
set_option maxHeartbeats 2000000 in
theorem st_white : St_white Inv_ := by
  intro x_text_length x_text_bytes_ x_reader_at x_reader_first x_reader_second x_reader_stoneTold x_reader_paintTold x_wall_worn x_wall_turn x_wall_order x_wall_pastLength x_wall_heldLength x_wall_past_ x_wall_held_ x_row_length x_row_paintings_ x_game_known_ x_lot_above x_lot_below x_laid_rows x_laid_columns x_laid_paints x_laid_apart x_laid_paintsOf0 x_laid_paintsOf1 x_laid_old x_laid_shut x_laid_all x_laid_firstColumn x_laid_fitsAtFirst x_laid_paintingsOf0 x_laid_paintingsOf1 x_laid_ruledOut_ x_spare_rows x_spare_columns x_spare_paints x_spare_apart x_spare_paintsOf0 x_spare_paintsOf1 x_spare_old x_spare_shut x_spare_all x_spare_firstColumn x_spare_fitsAtFirst x_spare_paintingsOf0 x_spare_paintingsOf1 x_spare_ruledOut_ y_length y_at y_stones y_kept y_done y_rows y_frees y_fewest y_text_ y_told_ y_touches_ y_has_ y_old_ y_beside_ y_slot_ y_row_ y_free_ y_worth_ y_fore_ y_back_ y_got_
  intro p1 p2 hI
  have hI0 := hI
  replace hI : InvC x_text_length x_text_bytes_ x_reader_at x_reader_first x_reader_second x_reader_stoneTold x_reader_paintTold x_wall_worn x_wall_turn x_wall_order x_wall_pastLength x_wall_heldLength x_wall_past_ x_wall_held_ x_row_length x_row_paintings_ x_game_known_ x_lot_above x_lot_below x_laid_rows x_laid_columns x_laid_paints x_laid_apart x_laid_paintsOf0 x_laid_paintsOf1 x_laid_old x_laid_shut x_laid_all x_laid_firstColumn x_laid_fitsAtFirst x_laid_paintingsOf0 x_laid_paintingsOf1 x_laid_ruledOut_ x_spare_rows x_spare_columns x_spare_paints x_spare_apart x_spare_paintsOf0 x_spare_paintsOf1 x_spare_old x_spare_shut x_spare_all x_spare_firstColumn x_spare_fitsAtFirst x_spare_paintingsOf0 x_spare_paintingsOf1 x_spare_ruledOut_ y_length y_at y_stones y_kept y_done y_rows y_frees y_fewest y_text_ y_told_ y_touches_ y_has_ y_old_ y_beside_ y_slot_ y_row_ y_free_ y_worth_ y_fore_ y_back_ y_got_ := hI
  obtain ⟨g, w, d, ps, e, ks, r, rs, len, hg, hIT, hXU, hXS, hMR, hIW, hIP, hIH, hIR, hMem⟩ := hI
  obtain ⟨hW, rfl, rfl, hor, hSW⟩ := hIW
  have hl := hW.len9 hg
  have hF : 29 ≤ FU := FU_ge (by omega)
  have hpa : fX9_isPainter p1 = some (nI (isN p1 2).toNat) := by
    unfold fX9_isPainter
    cases e : isN p1 2 with
    | false =>
      obtain ⟨n0, n1⟩ := isN2n e
      rw [if_neg n0, if_neg n1]; rfl
    | true =>
      rcases isN2 e with rfl | rfl <;> rfl
  cases e1 : isN p1 2 with
  | false =>
    refine ⟨(-1, x_game_known_), (-1, y_frees, y_slot_, y_free_, y_worth_), ?_, ?_, rfl, hI0⟩
    · unfold fX9_white
      rw [hpa, e1, Option.bind_some, if_f]
    · unfold fX10_white
      rw [in01N, e1, Option.bind_some, if_f]
  | true =>
    cases e2 : isN p2 2 with
    | false =>
      obtain ⟨n0, n1⟩ := isN2n e2
      refine ⟨(-1, x_game_known_), (-1, y_frees, y_slot_, y_free_, y_worth_), ?_, ?_, rfl, hI0⟩
      · unfold fX9_white
        rw [hpa, e1, Option.bind_some, if_t, if_neg n0, if_neg n1]
      · unfold fX10_white
        rw [in01N, e1, Option.bind_some, if_t, in01N, e2, Option.bind_some, if_f]
    | true =>
      obtain ⟨wi, hwi, rfl, hp1⟩ := p1_of e1
      obtain ⟨s0, v, c, free', worth', i1, i2, i3, i4, i5⟩ := plays_ok hg hMR hW (wi := wi) (by omega) hSW y_frees y_free_ y_worth_
      rw [hp1] at i3
      have hS0 := SW_low hSW hl i2
      have hlow : ∀ j, j < 220 → WS (upd s0 239 v) c j = y_slot_ j := fun j hj => by
        rw [WS_kept (by omega), upd_n (by omega)]; exact i2 j hj
      rw [hXU.2.2.2.2.2.2.2] at *
      rcases isN2 e2 with rfl | rfl
      · obtain ⟨kn, h1, h3⟩ := x_getsHisWill hg hXS (wi := wi) (by omega) hW.1 hW.2.1 hF hMem
        have hw0 := i5 0 (Nat.pow_pos (by omega))
        rw [colC_0, mvC_0 g w.1 hW.2.1] at hw0
        obtain ⟨k1, k2, k3⟩ := slot_low hg hW hSW hIP hIH hlow
        have h19 : WS (upd s0 239 v) c 19 = nI w.2.2 := by
          rw [hlow 19 (by omega)]; exact hSW.2.2.2
        refine ⟨(nI (RR g wi 9 w.1 w.2.2 == decide (w.2.2 = wi)).toNat, kn), (nI (RR g wi 9 w.1 w.2.2 == decide (w.2.2 = wi)).toNat, nI (bc g w.1), WS (upd s0 239 v) c, free', worth'), ?_, ?_, rfl, ?_⟩
        · unfold fX9_white fX9_white_18 fX9_white_92
          rw [hpa, e1, Option.bind_some, if_t, if_pos rfl, if_neg (show ¬ (0 : Int32) = 1 by decide), h1, Option.bind_some]
          dsimp only
          by_cases q : w.2.2 = wi
          · rw [if_pos (by rw [q]), decide_eq_true q]
            cases RR g wi 9 w.1 w.2.2 with
            | false => rw [if_neg (show ¬ nI false.toNat = 1 by decide)]; rfl
            | true => rw [if_pos (show nI true.toNat = 1 from rfl)]; rfl
          · rw [if_neg (by rw [nI_eq (by have := hW.2.1; omega) (by omega)]; exact q), decide_eq_false q]
            cases RR g wi 9 w.1 w.2.2 with
            | false => rw [if_pos (show nI false.toNat = 0 from rfl)]; rfl
            | true => rw [if_neg (show ¬ nI true.toNat = 0 by decide)]; rfl
        · unfold fX10_white
          rw [in01N, e1, Option.bind_some, if_t, in01N, e2, Option.bind_some, if_t, i3, Option.bind_some, if_neg (show ¬ (0 : Int32) = 1 by decide)]
          dsimp only
          have h19' : WS (upd s0 239 v) c ((19 : Int32)).toNatClampNeg = nI w.2.2 := h19
          rw [t0, hw0]
          by_cases q : w.2.2 = wi
          · rw [if_pos (by rw [h19', q]), decide_eq_true q]
            cases RR g wi 9 w.1 w.2.2 <;> rfl
          · rw [if_neg (by rw [h19', nI_eq (by have := hW.2.1; omega) (by omega)]; exact q), decide_eq_false q]
            cases RR g wi 9 w.1 w.2.2 <;> rfl
        · exact ⟨g, w, d, ps, e, ks, r, rs, len, hg, hIT, hXU, hXS, hMR, ⟨hW, rfl, rfl, hor, k1⟩, k2, k3, hIR, h3⟩
      · obtain ⟨r0, kn, h1, h2, h3⟩ := x_lowestGood hg hXS (wi := wi) (by omega) hW.1 hW.2.1 hF hMem
        obtain ⟨r', slot', j1, j2, j3⟩ := wins_ok hg hMR hW (wi := wi) (v := v) i1 hS0 i4 i5
        have hrr := FG_one h2 j2
        subst hrr
        obtain ⟨k1, k2, k3⟩ := slot_low hg hW hSW hIP hIH (slot' := slot') (fun j hj => by rw [j3 j hj]; exact i2 j hj)
        refine ⟨(r0, kn), (r0, nI (bc g w.1), slot', free', worth'), ?_, ?_, rfl, ?_⟩
        · unfold fX9_white fX9_white_18
          rw [hpa, e1, Option.bind_some, if_t, if_neg (show ¬ (1 : Int32) = 0 by decide), if_pos rfl, if_pos rfl, h1, Option.bind_some]
        · unfold fX10_white
          rw [in01N, e1, Option.bind_some, if_t, in01N, e2, Option.bind_some, if_t, i3, Option.bind_some, if_pos rfl]
          dsimp only
          rw [j1, Option.bind_some]
        · exact ⟨g, w, d, ps, e, ks, r, rs, len, hg, hIT, hXU, hXS, hMR, ⟨hW, rfl, rfl, hor, k1⟩, k2, k3, hIR, h3⟩
