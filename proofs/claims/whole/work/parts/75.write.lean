/-! a text is written -/
def ITc (len : Nat) (xb yt : Nat → Int32) : Prop := ∀ i, i < len → xb i = yt i ∧ (yt i).toInt8.toInt32 = yt i
theorem write_loops (p1 : Int32) (v : Int64) : ∀ m, m ≤ 8 → ∀ len (xb yt : Nat → Int32), len + m ≤ 200 → ITc len xb yt → ∃ xb' yt' : Nat → Int32,
    (∀ n, m < n → jl_loop3 (bX6_add_20 FU p1 v) n (nI m + -nI 1) (nI len) xb = some (nI (len + m), nI (len + m), xb')) ∧
    (∀ n, m < n → jl_loop3 (bX10_write_34 FU p1 v) n (nI m + -nI 1) (nI len) yt = some (nI (len + m), nI (len + m), yt')) ∧ ITc (len + m) xb' yt' := by
  intro m
  induction m with
  | zero =>
    intro _ len xb yt hl h
    have hneg : (nI 0 + -nI 1 < 0) = True := by apply eq_true; decide
    refine ⟨xb, yt, fun n hn => ?_, fun n hn => ?_, h⟩
    · obtain ⟨n', rfl⟩ : ∃ n', n = n' + 1 := ⟨n - 1, by omega⟩
      rw [jl_loop3_s]; unfold bX6_add_20
      simp only [hneg, if_true]; rfl
    · obtain ⟨n', rfl⟩ : ∃ n', n = n' + 1 := ⟨n - 1, by omega⟩
      rw [jl_loop3_s]; unfold bX10_write_34
      simp only [hneg, if_true]; rfl
  | succ m ih =>
    intro hm8 len xb yt hl h
    have hc : ITc (len + 1) (upd xb len (vp_nar .byte ((((v.toUInt64 >>> (((nI (8 * m)).toInt64).toUInt64 &&& Int64.toUInt64 63)).toInt64).toInt32).toInt8.toInt32))) (upd yt len (vp_nar .byte (((v >>> ((nI (8 * m)).toInt64 &&& 63)).toInt32).toInt8.toInt32))) := by
      intro i hi
      by_cases e : i = len
      · rw [upd_s e, upd_s e, byte_at v m (by omega)]
        refine ⟨rfl, ?_⟩
        rw [vp_nar_byte, fb_byte_twice, fb_byte_twice]
      · rw [upd_n e, upd_n e]; exact h i (by omega)
    obtain ⟨xb', yt', h1, h2, h3⟩ := ih (by omega) (len + 1) _ _ (by omega) hc
    refine ⟨xb', yt', fun n hn => ?_, fun n hn => ?_, by rw [show len + (m + 1) = len + 1 + m by omega]; exact h3⟩
    · obtain ⟨n', rfl⟩ : ∃ n', n = n' + 1 := ⟨n - 1, by omega⟩
      have hrec := h1 n' (by omega)
      rw [jl_loop3_s, ni_addm1]
      generalize jl_loop3 (bX6_add_20 FU p1 v) n' = K at hrec ⊢
      unfold bX6_add_20
      rw [if_neg (by rw [(show (0 : Int32) = nI 0 from rfl), nI_ltI (by omega) (by omega)]; omega), if_neg (by rw [(show (200 : Int32) = nI 200 from rfl), nI_leI (by omega) (by omega)]; omega), if_neg (by
        rw [nI_clamp (by omega)]
        rintro (q | q)
        · exact nI_pos (by omega) q
        · omega), nI_clamp (by omega), show (8 : Int32) * nI m = nI (8 * m) from pk_mul 8 m]
      simp only [jl_let_eq]
      rw [show nI len + (1 : Int32) = nI (len + 1) from nI_add len 1, show len + (m + 1) = len + 1 + m by omega]
      exact hrec
    · obtain ⟨n', rfl⟩ : ∃ n', n = n' + 1 := ⟨n - 1, by omega⟩
      have hrec := h2 n' (by omega)
      rw [jl_loop3_s, ni_addm1]
      generalize jl_loop3 (bX10_write_34 FU p1 v) n' = K at hrec ⊢
      unfold bX10_write_34
      rw [if_neg (by rw [(show (0 : Int32) = nI 0 from rfl), nI_ltI (by omega) (by omega)]; omega), if_neg (by
        rw [nI_clamp (by omega)]
        rintro (q | q)
        · exact nI_pos (by omega) q
        · omega), nI_clamp (by omega), show (8 : Int32) * nI m = nI (8 * m) from pk_mul 8 m]
      simp only [jl_let_eq]
      rw [show nI len + (1 : Int32) = nI (len + 1) from nI_add len 1, show len + (m + 1) = len + 1 + m by omega]
      exact hrec
theorem is18 (x : Int32) : (∃ k, 1 ≤ k ∧ k ≤ 8 ∧ x = nI k) ∨ (¬ (1 ≤ x.toInt ∧ x.toInt ≤ 8)) := by
  by_cases h : 1 ≤ x.toInt ∧ x.toInt ≤ 8
  · refine Or.inl ⟨x.toInt.toNat, by omega, by omega, ?_⟩
    rw [fa_eq, nI_toInt (by omega)]; omega
  · exact Or.inr h
theorem st_write : St_write Inv_ := by
  intro x_text_length x_text_bytes_ x_reader_at x_reader_first x_reader_second x_reader_stoneTold x_reader_paintTold x_wall_worn x_wall_turn x_wall_order x_wall_pastLength x_wall_heldLength x_wall_past_ x_wall_held_ x_row_length x_row_paintings_ x_game_known_ x_lot_above x_lot_below x_laid_rows x_laid_columns x_laid_paints x_laid_apart x_laid_paintsOf0 x_laid_paintsOf1 x_laid_old x_laid_shut x_laid_all x_laid_firstColumn x_laid_fitsAtFirst x_laid_paintingsOf0 x_laid_paintingsOf1 x_laid_ruledOut_ x_spare_rows x_spare_columns x_spare_paints x_spare_apart x_spare_paintsOf0 x_spare_paintsOf1 x_spare_old x_spare_shut x_spare_all x_spare_firstColumn x_spare_fitsAtFirst x_spare_paintingsOf0 x_spare_paintingsOf1 x_spare_ruledOut_ y_length y_at y_stones y_kept y_done y_rows y_frees y_fewest y_text_ y_told_ y_touches_ y_has_ y_old_ y_beside_ y_slot_ y_row_ y_free_ y_worth_ y_fore_ y_back_ y_got_
  intro p1 p2 hI
  have hI0 := hI
  replace hI : InvC x_text_length x_text_bytes_ x_reader_at x_reader_first x_reader_second x_reader_stoneTold x_reader_paintTold x_wall_worn x_wall_turn x_wall_order x_wall_pastLength x_wall_heldLength x_wall_past_ x_wall_held_ x_row_length x_row_paintings_ x_game_known_ x_lot_above x_lot_below x_laid_rows x_laid_columns x_laid_paints x_laid_apart x_laid_paintsOf0 x_laid_paintsOf1 x_laid_old x_laid_shut x_laid_all x_laid_firstColumn x_laid_fitsAtFirst x_laid_paintingsOf0 x_laid_paintingsOf1 x_laid_ruledOut_ x_spare_rows x_spare_columns x_spare_paints x_spare_apart x_spare_paintsOf0 x_spare_paintsOf1 x_spare_old x_spare_shut x_spare_all x_spare_firstColumn x_spare_fitsAtFirst x_spare_paintingsOf0 x_spare_paintingsOf1 x_spare_ruledOut_ y_length y_at y_stones y_kept y_done y_rows y_frees y_fewest y_text_ y_told_ y_touches_ y_has_ y_old_ y_beside_ y_slot_ y_row_ y_free_ y_worth_ y_fore_ y_back_ y_got_ := hI
  obtain ⟨g, w, d, ps, e, ks, r, rs, len, hg, hIT, hXU, hXS, hMR, hIW, hIP, hIH, hIR, hMem⟩ := hI
  obtain ⟨hl, rfl, rfl, hb⟩ := hIT
  rcases is18 p1 with ⟨k, k1, k8, rfl⟩ | hno
  · have hin : fX10_in (nI k).toInt64 (1 : Int64) (8 : Int64) = some (nI 1) := by
      rw [in_ok, i2l_toInt, nI_toInt (by omega), show (1 : Int64).toInt = 1 by decide, show (8 : Int64).toInt = 8 by decide]
      rw [show (decide ((1 : Int) ≤ (k : Int)) && decide ((k : Int) ≤ 8)) = true by
        rw [Bool.and_eq_true]; exact ⟨decide_eq_true (by omega), decide_eq_true (by omega)⟩]
      rfl
    have hlt1 : ¬ nI k < (1 : Int32) := by rw [(show (1 : Int32) = nI 1 from rfl), nI_ltI (by omega) (by omega)]; omega
    have hle8 : nI k ≤ (8 : Int32) := by rw [(show (8 : Int32) = nI 8 from rfl), nI_leI (by omega) (by omega)]; omega
    have hsub : (200 : Int32) - nI len = nI (200 - len) := by
      rw [fa_eq, fb_subI, nI_toInt (by omega), nI_toInt (by omega)]
      · show (200 : Int) - _ = _
        omega
      · rw [nI_toInt (by omega)]; show _ ≤ (200 : Int) - _; omega
      · rw [nI_toInt (by omega)]; show (200 : Int) - _ < _; omega
    by_cases hf : k ≤ 200 - len
    · obtain ⟨xb', yt', h1, h2, h3⟩ := write_loops (nI k) p2 k k8 len x_text_bytes_ y_text_ (by omega) hb
      refine ⟨(nI (len + k), nI (len + k), xb'), (nI (len + k), nI (len + k), yt'), ?_, ?_, Eq.refl (nI (len + k)), ?_⟩
      · unfold fX9_write fX6_add lX6_add_20
        rw [if_neg hlt1, if_pos hle8, hsub, if_pos (by rw [nI_leI (by omega) (by omega)]; omega), jl_let_eq, Int32.sub_eq_add_neg]
        rw [show nI k + -(1 : Int32) = nI k + -nI 1 from rfl, h1 FU (FU_ge (n := k + 1) (by omega))]; rfl
      · unfold fX10_write lX10_write_34
        rw [show (1 : Int64) = (1 : Int64) from rfl, hin, Option.bind_some, if_neg (by decide), nI_add, if_pos (by rw [(show (200 : Int32) = nI 200 from rfl), nI_leI (by omega) (by omega)]; omega), jl_let_eq, Int32.sub_eq_add_neg]
        rw [show nI k + -(1 : Int32) = nI k + -nI 1 from rfl, h2 FU (FU_ge (n := k + 1) (by omega))]
      · exact ⟨g, w, d, ps, e, ks, r, rs, len + k, hg, ⟨by omega, rfl, rfl, h3⟩, hXU, hXS, hMR, hIW, hIP, hIH, hIR, hMem⟩
    · refine ⟨(-3, nI len, x_text_bytes_), (-3, nI len, y_text_), ?_, ?_, Eq.refl (-3 : Int32), hI0⟩
      · unfold fX9_write fX6_add
        rw [if_neg hlt1, if_pos hle8, hsub, if_neg (by rw [nI_leI (by omega) (by omega)]; omega)]; rfl
      · unfold fX10_write
        rw [hin, Option.bind_some, if_neg (by decide), nI_add, if_neg (by rw [(show (200 : Int32) = nI 200 from rfl), nI_leI (by omega) (by omega)]; omega)]
  · have hin : fX10_in p1.toInt64 (1 : Int64) (8 : Int64) = some (nI 0) := by
      rw [in_ok, i2l_toInt, show (1 : Int64).toInt = 1 by decide, show (8 : Int64).toInt = 8 by decide]
      rw [show (decide ((1 : Int) ≤ p1.toInt) && decide (p1.toInt ≤ 8)) = false by
        rw [Bool.and_eq_false_iff]
        by_cases q : 1 ≤ p1.toInt
        · exact Or.inr (decide_eq_false (by omega))
        · exact Or.inl (decide_eq_false q)]
      rfl
    refine ⟨(-1, nI len, x_text_bytes_), (-1, nI len, y_text_), ?_, ?_, Eq.refl (-1 : Int32), hI0⟩
    · unfold fX9_write
      by_cases q : p1 < 1
      · rw [if_pos q]
      · rw [if_neg q, if_neg (by
          rw [fa_lt] at q; rw [fa_le]
          intro q2
          exact hno ⟨by have : (1 : Int32).toInt = 1 := by decide
                        omega, q2⟩)]
    · unfold fX10_write
      rw [hin, Option.bind_some, if_pos (by decide)]
