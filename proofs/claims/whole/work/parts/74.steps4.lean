/-! told rows judged, counts, texts written -/
def jdg (g : JP) (rs : Nat → Nat × Nat) : Nat → Nat → JW → Int32
  | 0, _, _ => -4
  | m + 1, i, w => if mayA g w.1 w.2.2 (rs i).1 (rs i).2 = true then jdg g rs m (i + 1) (paintW w (rs i).1 (rs i).2) else nI i
theorem judge_x {g : JP} (hg : GOK g) {all fc fit pg0 pg1 : Int32} {ro : Nat → Int32} (hX : XS g all fc fit pg0 pg1 ro) {r : Nat} (hr : r ≤ 9) {rs : Nat → Nat × Nat} {xp : Nat → Int32} (hrs : ∀ i, i < r → (rs i).1 < pn g ∧ 1 ≤ (rs i).2 ∧ (rs i).2 ≤ pP g ∧ xp i = nI (2 ^ (9 * ((rs i).2 - 1) + (rs i).1))) (a b : Int32) (F : Nat) :
    ∀ m i (w : JW), i + m = r → WOK g w → ∀ n, m < n → jl_loop3 (bX5_firstWrong_13 F (nI r) xp fit pg0 pg1 ro a b) n (nI (fitS g w.1)) (nI w.2.2) (nI i) = some (jdg g rs m i w) := by
  have hn9 := (gn hg).2.1
  intro m
  induction m with
  | zero =>
    intro i w hi hw n hn
    obtain ⟨n', rfl⟩ : ∃ n', n = n' + 1 := ⟨n - 1, by omega⟩
    rw [jl_loop3_s]; unfold bX5_firstWrong_13
    rw [if_pos (by rw [nI_leI (by omega) (by omega)]; omega)]; rfl
  | succ m ih =>
    intro i w hi hw n hn
    obtain ⟨n', rfl⟩ : ∃ n', n = n' + 1 := ⟨n - 1, by omega⟩
    rw [jl_loop3_s]; unfold bX5_firstWrong_13
    obtain ⟨q1, q2, q3, q4⟩ := hrs i (by omega)
    have hP3 := hg.2.2.2.2.1
    have e0 : ¬ r ≤ i := by omega
    have e1 : ¬ 9 ≤ i := by omega
    have hpo : fX3_paintingsOf pg0 pg1 (nI w.2.2) = some (nI (canS g w.2.2)) := by
      rw [x_paintingsOf hw.2.1, hX.2.2.2.1, hX.2.2.2.2.1]
      rcases (show w.2.2 = 0 ∨ w.2.2 = 1 by have := hw.2.1; omega) with h | h <;> rw [h] <;> rfl
    have hb := ch_bit (g := g) (c := w.1) (t := w.2.2) (s := (rs i).1) (p := (rs i).2) (by omega) q2 (by omega)
    have hG : mayG g w.1 w.2.2 (rs i).1 (rs i).2 = mayA g w.1 w.2.2 (rs i).1 (rs i).2 := by simp [mayG, q1]
    rw [hG] at hb
    rw [if_neg (by rw [nI_leI (by omega) (by omega)]; exact e0), if_neg (by rw [show (9 : Int32) = nI 9 from rfl, nI_leI (by omega) (by omega)]; exact e1), hpo, Option.bind_some, ni_and, chS_eq hg hw.1]
    rw [nI_clamp (by omega), q4, if_neg (by
      rintro (h | h)
      · exact nI_pos (by omega) h
      · omega)]
    show _ = some (if mayA g w.1 w.2.2 (rs i).1 (rs i).2 = true then jdg g rs m (i + 1) (paintW w (rs i).1 (rs i).2) else nI i)
    by_cases hm : mayA g w.1 w.2.2 (rs i).1 (rs i).2 = true
    · rw [if_pos hm, if_neg (fun e => by rw [hb.mp e] at hm; cases hm), if_neg (by
        rintro (h | h)
        · exact nI_pos (by omega) h
        · omega), x_fitAfter hg hX q1 q2 (by omega) (may_le hg hm).2.2]
      simp only [Option.bind_some, jl_let_eq]
      rw [turn_1 hw.2.1, ni_of1, nI_add]
      exact ih (i + 1) (paintW w (rs i).1 (rs i).2) (by omega) (hw.paint hg q1 hm) n' (by omega)
    · rw [if_neg hm]
      have hf : mayA g w.1 w.2.2 (rs i).1 (rs i).2 = false := by simpa using hm
      rw [if_pos (hb.mpr hf)]
theorem judge_m {g : JP} (hg : GOK g) {stones : Int32} {told touches has old beside : Nat → Int32} (hM : MR g stones told touches has old beside) {r : Nat} (hr : r ≤ 9) {rs : Nat → Nat × Nat} {row : Nat → Int32} (hrs : ∀ i, i < r → (rs i).1 < pn g ∧ 1 ≤ (rs i).2 ∧ (rs i).2 ≤ pP g ∧ row (2 * i) = nI (rs i).1 ∧ row (2 * i + 1) = nI (rs i).2) {F : Nat} (hF : 10 ≤ F) :
    ∀ m i (w : JW) (slot : Nat → Int32), i + m = r → WOK g w → SW slot 11 w → ∃ slot', (∀ n, m < n → jl_loop2 (bX10_judge_9 F stones (nI r) touches has beside row) n (nI i) slot = some (jdg g rs m i w, slot')) ∧ ∀ j, j < 220 → slot' j = slot j := by
  have hn9 := (gn hg).2.1
  intro m
  induction m with
  | zero =>
    intro i w slot hi hw hs
    refine ⟨slot, fun n hn => ?_, fun _ _ => rfl⟩
    obtain ⟨n', rfl⟩ : ∃ n', n = n' + 1 := ⟨n - 1, by omega⟩
    rw [jl_loop2_s]; unfold bX10_judge_9
    rw [if_pos (by rw [nI_leI (by omega) (by omega)]; omega)]; rfl
  | succ m ih =>
    intro i w slot hi hw hs
    obtain ⟨q1, q2, q3, q4, q5⟩ := hrs i (by omega)
    have hP3 := hg.2.2.2.2.1
    have e0 : ¬ r ≤ i := by omega
    have e1 : ¬ 18 ≤ 2 * i := by omega
    have e2 : ¬ 18 ≤ 2 * i + 1 := by omega
    have hmay := isMay_ok hg hM hw.1.1 (k := 11) (by omega) hs q1 hw.2.1 q2 (by omega) hF
    by_cases hm : mayA g w.1 w.2.2 (rs i).1 (rs i).2 = true
    · have hw' := hw.paint hg q1 hm
      have hlen : w.2.1.length < 9 := by
        have := hw'.len9 hg
        have e : (paintW w (rs i).1 (rs i).2).2.1.length = w.2.1.length + 1 := by simp [paintW]
        omega
      obtain ⟨s2, p1, p2, p3⟩ := paints_ok (k := 11) (p := (rs i).2) (by omega) hs hlen hw.2.1 (show (rs i).1 < 9 by omega)
      obtain ⟨s3, h1, h2⟩ := ih (i + 1) _ s2 (by omega) hw' p2
      refine ⟨s3, fun n hn => ?_, fun j hj => by rw [h2 j hj, p3 j (by omega)]⟩
      obtain ⟨n', rfl⟩ : ∃ n', n = n' + 1 := ⟨n - 1, by omega⟩
      rw [jl_loop2_s]
      have hrec := h1 n' (by omega)
      generalize jl_loop2 (bX10_judge_9 F stones (nI r) touches has beside row) n' = K at hrec ⊢
      unfold bX10_judge_9
      simp (disch := omega) only [fa_lit, ni_bit, b2n_0, b2n_1, ni_m1, ni_of1, ni_ofm1, nI_add, pk_mul, nI_clamp, ni_lt, ni_le, ni_eq, ni_l, fa_litL, ln_le, ln_lt, ln_eq, jl_let_eq, Option.bind_some, ↓reduceIte, e0, e1, e2, Nat.not_lt_zero, or_self, q4, q5, hmay, hm, p1, Bool.true_eq_false]
      rw [hrec]
      show _ = some (if mayA g w.1 w.2.2 (rs i).1 (rs i).2 = true then _ else _, s3)
      rw [if_pos hm]
    · have hf : mayA g w.1 w.2.2 (rs i).1 (rs i).2 = false := by simpa using hm
      refine ⟨slot, fun n hn => ?_, fun _ _ => rfl⟩
      obtain ⟨n', rfl⟩ : ∃ n', n = n' + 1 := ⟨n - 1, by omega⟩
      rw [jl_loop2_s]; unfold bX10_judge_9
      simp (disch := omega) only [fa_lit, ni_bit, b2n_0, b2n_1, ni_m1, ni_of1, ni_ofm1, nI_add, pk_mul, nI_clamp, ni_lt, ni_le, ni_eq, ni_l, fa_litL, ln_le, ln_lt, ln_eq, jl_let_eq, Option.bind_some, ↓reduceIte, e0, e1, e2, Nat.not_lt_zero, or_self, q4, q5, hmay, hf]
      show _ = some (if mayA g w.1 w.2.2 (rs i).1 (rs i).2 = true then _ else _, slot)
      rw [if_neg hm]
theorem st_judge : St_judge Inv_ := by
  intro x_text_length x_text_bytes_ x_reader_at x_reader_first x_reader_second x_reader_stoneTold x_reader_paintTold x_wall_worn x_wall_turn x_wall_order x_wall_pastLength x_wall_heldLength x_wall_past_ x_wall_held_ x_row_length x_row_paintings_ x_game_known_ x_lot_above x_lot_below x_laid_rows x_laid_columns x_laid_paints x_laid_apart x_laid_paintsOf0 x_laid_paintsOf1 x_laid_old x_laid_shut x_laid_all x_laid_firstColumn x_laid_fitsAtFirst x_laid_paintingsOf0 x_laid_paintingsOf1 x_laid_ruledOut_ x_spare_rows x_spare_columns x_spare_paints x_spare_apart x_spare_paintsOf0 x_spare_paintsOf1 x_spare_old x_spare_shut x_spare_all x_spare_firstColumn x_spare_fitsAtFirst x_spare_paintingsOf0 x_spare_paintingsOf1 x_spare_ruledOut_ y_length y_at y_stones y_kept y_done y_rows y_frees y_fewest y_text_ y_told_ y_touches_ y_has_ y_old_ y_beside_ y_slot_ y_row_ y_free_ y_worth_ y_fore_ y_back_ y_got_
  intro hI
  replace hI : InvC x_text_length x_text_bytes_ x_reader_at x_reader_first x_reader_second x_reader_stoneTold x_reader_paintTold x_wall_worn x_wall_turn x_wall_order x_wall_pastLength x_wall_heldLength x_wall_past_ x_wall_held_ x_row_length x_row_paintings_ x_game_known_ x_lot_above x_lot_below x_laid_rows x_laid_columns x_laid_paints x_laid_apart x_laid_paintsOf0 x_laid_paintsOf1 x_laid_old x_laid_shut x_laid_all x_laid_firstColumn x_laid_fitsAtFirst x_laid_paintingsOf0 x_laid_paintingsOf1 x_laid_ruledOut_ x_spare_rows x_spare_columns x_spare_paints x_spare_apart x_spare_paintsOf0 x_spare_paintsOf1 x_spare_old x_spare_shut x_spare_all x_spare_firstColumn x_spare_fitsAtFirst x_spare_paintingsOf0 x_spare_paintingsOf1 x_spare_ruledOut_ y_length y_at y_stones y_kept y_done y_rows y_frees y_fewest y_text_ y_told_ y_touches_ y_has_ y_old_ y_beside_ y_slot_ y_row_ y_free_ y_worth_ y_fore_ y_back_ y_got_ := hI
  obtain ⟨g, w, d, ps, e, ks, r, rs, len, hg, hIT, hXU, hXS, hMR, hIW, hIP, hIH, hIR, hMem⟩ := hI
  obtain ⟨hW, rfl, rfl, rfl, hSW⟩ := hIW
  obtain ⟨hr, rfl, rfl, hrs⟩ := hIR
  obtain ⟨s1, c1, c2⟩ := copies_ok (slot := y_slot_) (a := 0) (b := 11) (F := FU) (by omega) (by omega) (by omega) (FU_ge (by omega))
  have hS1 := hSW.cp (hW.len9 hg) c2
  obtain ⟨s2, h1, h2⟩ := judge_m hg hMR hr (rs := rs) (row := y_row_) (fun i hi => ⟨(hrs i hi).1, (hrs i hi).2.1, (hrs i hi).2.2.1, (hrs i hi).2.2.2.2.1, (hrs i hi).2.2.2.2.2⟩) (FU_ge (n := 10) (by omega)) r 0 w s1 (by omega) hW hS1
  have hx := judge_x hg hXS hr (rs := rs) (xp := x_row_paintings_) (fun i hi => ⟨(hrs i hi).1, (hrs i hi).2.1, (hrs i hi).2.2.1, (hrs i hi).2.2.2.1⟩) (nI (wornS w.1)) (nI w.2.2) FU r 0 w (by omega) hW FU (FU_ge (n := r + 1) (by omega))
  refine ⟨jdg g rs r 0 w, (jdg g rs r 0 w, s2), ?_, ?_, Eq.refl (jdg g rs r 0 w), ?_⟩
  · unfold fX9_judge fX5_firstWrong lX5_firstWrong_13
    rw [x_fitting hg hXS hW.1 (FU_ge (by omega)), Option.bind_some, show (0 : Int32) = nI 0 from rfl, hx]; rfl
  · unfold fX10_judge lX10_judge_9
    rw [show (0 : Int32) = nI 0 from rfl, show (11 : Int32) = nI 11 from rfl, c1, Option.bind_some]
    exact h1 FU (FU_ge (n := r + 1) (by omega))
  · have k : ∀ j, j < 220 → s2 j = y_slot_ j := fun j hj => by rw [h2 j hj, c2.2 j (by omega)]
    have z1 := past_kept (slot' := s2) hg hIP (fun j _ j2 => k j j2)
    have z2 := held_kept (slot' := s2) hg hIH (fun j _ j2 => k j (by omega))
    have z3 : SW s2 0 w := hSW.kept (hW.len9 hg) (fun j _ j2 => k j (by omega))
    exact ⟨g, w, d, ps, e, ks, r, rs, len, hg, hIT, hXU, hXS, hMR, ⟨hW, rfl, rfl, rfl, z3⟩, z1, z2, ⟨hr, rfl, rfl, hrs⟩, hMem⟩
theorem st_count : St_count Inv_ := by
  intro x_text_length x_text_bytes_ x_reader_at x_reader_first x_reader_second x_reader_stoneTold x_reader_paintTold x_wall_worn x_wall_turn x_wall_order x_wall_pastLength x_wall_heldLength x_wall_past_ x_wall_held_ x_row_length x_row_paintings_ x_game_known_ x_lot_above x_lot_below x_laid_rows x_laid_columns x_laid_paints x_laid_apart x_laid_paintsOf0 x_laid_paintsOf1 x_laid_old x_laid_shut x_laid_all x_laid_firstColumn x_laid_fitsAtFirst x_laid_paintingsOf0 x_laid_paintingsOf1 x_laid_ruledOut_ x_spare_rows x_spare_columns x_spare_paints x_spare_apart x_spare_paintsOf0 x_spare_paintsOf1 x_spare_old x_spare_shut x_spare_all x_spare_firstColumn x_spare_fitsAtFirst x_spare_paintingsOf0 x_spare_paintingsOf1 x_spare_ruledOut_ y_length y_at y_stones y_kept y_done y_rows y_frees y_fewest y_text_ y_told_ y_touches_ y_has_ y_old_ y_beside_ y_slot_ y_row_ y_free_ y_worth_ y_fore_ y_back_ y_got_
  intro p1 hI
  have hI0 := hI
  replace hI : InvC x_text_length x_text_bytes_ x_reader_at x_reader_first x_reader_second x_reader_stoneTold x_reader_paintTold x_wall_worn x_wall_turn x_wall_order x_wall_pastLength x_wall_heldLength x_wall_past_ x_wall_held_ x_row_length x_row_paintings_ x_game_known_ x_lot_above x_lot_below x_laid_rows x_laid_columns x_laid_paints x_laid_apart x_laid_paintsOf0 x_laid_paintsOf1 x_laid_old x_laid_shut x_laid_all x_laid_firstColumn x_laid_fitsAtFirst x_laid_paintingsOf0 x_laid_paintingsOf1 x_laid_ruledOut_ x_spare_rows x_spare_columns x_spare_paints x_spare_apart x_spare_paintsOf0 x_spare_paintsOf1 x_spare_old x_spare_shut x_spare_all x_spare_firstColumn x_spare_fitsAtFirst x_spare_paintingsOf0 x_spare_paintingsOf1 x_spare_ruledOut_ y_length y_at y_stones y_kept y_done y_rows y_frees y_fewest y_text_ y_told_ y_touches_ y_has_ y_old_ y_beside_ y_slot_ y_row_ y_free_ y_worth_ y_fore_ y_back_ y_got_ := hI
  obtain ⟨g, w, d, ps, e, ks, r, rs, len, hg, hIT, hXU, hXS, hMR, hIW, hIP, hIH, hIR, hMem⟩ := hI
  obtain ⟨hn1, hn9, hR9, hC9⟩ := gn hg
  obtain ⟨hW, rfl, rfl, rfl, hSW⟩ := hIW
  obtain ⟨-, hr1, hr2, -⟩ := hIR
  obtain ⟨-, hd1, hd2, -⟩ := hIP
  obtain ⟨-, he1, he2, -⟩ := hIH
  obtain ⟨-, ht1, ht2, -⟩ := hIT
  suffices h : ∃ v, fX9_count x_text_length (nI (wornS w.1)) (nI w.2.2) x_wall_pastLength x_wall_heldLength x_row_length x_laid_rows x_laid_columns x_laid_paints x_laid_old p1 = some v ∧ fX10_count FU y_length y_stones y_kept y_done y_rows y_told_ y_slot_ p1 = some v by
    obtain ⟨v, h1, h2⟩ := h
    exact ⟨v, v, h1, h2, Eq.refl v, hI0⟩
  have e18 := hSW.2.2.1
  have e19 := hSW.2.2.2
  rw [Nat.mul_zero, Nat.zero_add] at e18 e19
  have hpt := painted_ok hg hMR.1 (k := 0) (by omega) hSW.1 hW.1 (FU_ge (n := 10) (by omega))
  unfold fX9_count fX10_count fX3_stones
  by_cases h0 : p1 = 0
  · rw [if_pos h0, if_pos h0, hXU.1, hXU.2.1, pk_mul, hMR.1]; exact ⟨_, rfl, rfl⟩
  rw [if_neg h0, if_neg h0]
  by_cases h1 : p1 = 1
  · rw [if_pos h1, if_pos h1, hXU.2.2.1, c2, hMR.2.1.2.2]; exact ⟨_, rfl, rfl⟩
  rw [if_neg h1, if_neg h1]
  by_cases h2 : p1 = 2
  · rw [if_pos h2, if_pos h2, c19, e19]; exact ⟨_, rfl, rfl⟩
  rw [if_neg h2, if_neg h2]
  by_cases h3 : p1 = 3
  · rw [if_pos h3, if_pos h3, x_ptd, show (0 : Int32) = nI 0 from rfl, hpt]; exact ⟨_, rfl, rfl⟩
  rw [if_neg h3, if_neg h3]
  by_cases h4 : p1 = 4
  · rw [if_pos h4, if_pos h4, hr1, hr2]; exact ⟨_, rfl, rfl⟩
  rw [if_neg h4, if_neg h4]
  by_cases h5 : p1 = 5
  · rw [if_pos h5, if_pos h5, hd1, hd2]; exact ⟨_, rfl, rfl⟩
  rw [if_neg h5, if_neg h5]
  by_cases h6 : p1 = 6
  · rw [if_pos h6, if_pos h6, he1, he2]; exact ⟨_, rfl, rfl⟩
  rw [if_neg h6, if_neg h6]
  by_cases h7 : p1 = 7
  · rw [if_pos h7, if_pos h7, ht1, ht2]; exact ⟨_, rfl, rfl⟩
  rw [if_neg h7, if_neg h7]
  by_cases h8 : p1 = 8
  · rw [if_pos h8, if_pos h8, hXU.2.2.2.2.2.2.1, x_loose, Option.bind_some, bitCount_ok (looseS_lt31 _ _), Option.bind_some, loose_ct hg hW, c18, e18]; exact ⟨_, rfl, rfl⟩
  rw [if_neg h8, if_neg h8]; exact ⟨_, rfl, rfl⟩
/-- the byte at place k of a number: shifted with its sign or without -/
theorem byte_at (v : Int64) : ∀ k, k < 8 → (((v.toUInt64 >>> (((nI (8 * k)).toInt64).toUInt64 &&& Int64.toUInt64 63)).toInt64).toInt32).toInt8 = ((v >>> ((nI (8 * k)).toInt64 &&& 63)).toInt32).toInt8 := by
  intro k hk
  apply Int8.toBitVec_inj.mp
  have h1 : ∀ k, k < 8 → (((nI (8 * k)).toInt64).toUInt64 &&& Int64.toUInt64 63).toBitVec.toNat % 64 = 8 * k := by decide
  have h2 : ∀ k, k < 8 → ((((nI (8 * k)).toInt64 &&& 63)).toBitVec.smod 64).toNat = 8 * k := by decide
  have h3 : ∀ k, k < 8 → ((((nI (8 * k)).toInt64).toUInt64 &&& Int64.toUInt64 63).toNat % 64) = 8 * k := by decide
  have e1 : (v.toUInt64 >>> (((nI (8 * k)).toInt64).toUInt64 &&& Int64.toUInt64 63)).toInt64.toBitVec = v.toBitVec >>> (8 * k) := by
    apply BitVec.eq_of_toNat_eq
    show (v.toUInt64 >>> (((nI (8 * k)).toInt64).toUInt64 &&& Int64.toUInt64 63)).toNat = _
    rw [UInt64.toNat_shiftRight, h3 k hk, BitVec.toNat_ushiftRight]; rfl
  have e2 : (v >>> ((nI (8 * k)).toInt64 &&& 63)).toBitVec = v.toBitVec.sshiftRight (8 * k) := by
    rw [Int64.toBitVec_shiftRight]
    show v.toBitVec.sshiftRight ((((nI (8 * k)).toInt64 &&& 63)).toBitVec.smod 64).toNat = _
    rw [h2 k hk]
  apply BitVec.eq_of_getLsbD_eq
  intro i hi
  rw [Int32.toBitVec_toInt8, Int32.toBitVec_toInt8, Int64.toBitVec_toInt32, Int64.toBitVec_toInt32, e1, e2]
  rw [BitVec.getLsbD_signExtend, BitVec.getLsbD_signExtend, BitVec.getLsbD_signExtend, BitVec.getLsbD_signExtend, BitVec.getLsbD_ushiftRight, BitVec.getLsbD_sshiftRight]
  have a1 : i < 32 := by omega
  have a2 : i < 64 := by omega
  have a3 : ¬ 64 ≤ i := by omega
  have a4 : 8 * k + i < 64 := by omega
  simp [hi, a1, a2, a3, a4]
