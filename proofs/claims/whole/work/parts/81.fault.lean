/-! both sides begin a plan alike, and read its text alike -/
theorem begins_loop (F : Nat) : ∀ m x (told touches has old_ : Nat → Int32), x + m = 16 → ∀ f, m < f → ∃ touches' old' : Nat → Int32, jl_loop5 (bX10_begins_46 F) f (nI x) told touches has old_ = some (told, touches', has, old') ∧ (∀ j, x ≤ j → j < 16 → touches' (16 + j) = nI (!decide (j / 4 = j % 4)).toNat) ∧ (∀ j, j < 16 + x → touches' j = touches j) ∧ (∀ j, x ≤ j → j < 9 → old' (9 + j) = nI 0) ∧ (∀ j, j < 9 + x → old' j = old_ j) := by
  intro m
  induction m with
  | zero =>
    intro x told touches has old_ hx f hf
    obtain ⟨f', rfl⟩ : ∃ f', f = f' + 1 := ⟨f - 1, by omega⟩
    refine ⟨touches, old_, ?_, fun j h1 h2 => by omega, fun _ _ => rfl, fun j h1 h2 => by omega, fun _ _ => rfl⟩
    rw [jl_loop5_s]; unfold bX10_begins_46
    rw [if_pos (by rw [(show (16 : Int32) = nI 16 from rfl), nI_leI (by omega) (by omega)]; omega)]
  | succ m ih =>
    intro x told touches has old_ hx f hf
    obtain ⟨f', rfl⟩ : ∃ f', f = f' + 1 := ⟨f - 1, by omega⟩
    have hrem : nI x - nI x / 4 * 4 = nI (x % 4) := pk_rem (a := x) (d := 4) (by omega) (by omega) (by omega)
    have hdiv : nI x / 4 = nI (x / 4) := pk_div (a := x) (d := 4) (by omega) (by omega) (by omega)
    have hix : (16 : Int32) + nI x = nI (16 + x) := nI_add 16 x
    have hi9 : (9 : Int32) + nI x = nI (9 + x) := nI_add 9 x
    have hone : nI x + Int32.ofInt 1 = nI (x + 1) := nI_add x 1
    have gt : ∀ s, ∀ K : Int32 → (Nat → Int32) → (Nat → Int32) → (Nat → Int32) → (Nat → Int32) → Option ((Nat → Int32) × (Nat → Int32) × (Nat → Int32) × (Nat → Int32)), fX10_begins_74 F K (nI x) s (16 + nI x) told touches has old_ = K (nI (x + 1)) told (upd touches (16 + x) (vp_nar .boolean s)) has (if 9 ≤ x then old_ else upd old_ (9 + x) 0) := by
      intro s K
      unfold fX10_begins_74
      rw [hix, nI_clamp (by omega), if_neg (by
        rintro (q | q)
        · exact nI_pos (by omega) q
        · omega)]
      simp only [jl_let_eq]
      rw [hone, hi9, nI_clamp (by omega)]
      by_cases h9 : 9 ≤ x
      · rw [if_pos (by rw [(show (9 : Int32) = nI 9 from rfl), nI_leI (by omega) (by omega)]; omega), if_pos h9]
      · rw [if_neg (by rw [(show (9 : Int32) = nI 9 from rfl), nI_leI (by omega) (by omega)]; omega), if_neg h9, if_neg (by
          rintro (q | q)
          · exact nI_pos (by omega) q
          · omega)]
    obtain ⟨t', o', h1, h2, h3, h4, h5⟩ := ih (x + 1) told (upd touches (16 + x) (nI (!decide (x / 4 = x % 4)).toNat)) has (if 9 ≤ x then old_ else upd old_ (9 + x) 0) (by omega) f' (by omega)
    refine ⟨t', o', ?_, ?_, ?_, ?_, ?_⟩
    · rw [jl_loop5_s]
      generalize jl_loop5 (bX10_begins_46 F) f' = K at h1 ⊢
      unfold bX10_begins_46
      rw [if_neg (by rw [(show (16 : Int32) = nI 16 from rfl), nI_leI (by omega) (by omega)]; omega), hrem, hdiv, gt, gt]
      by_cases e : x / 4 = x % 4
      · rw [if_pos (by rw [e])]
        rw [decide_eq_true e] at h1
        exact h1
      · rw [if_neg (by rw [nI_eq (by omega) (by omega)]; exact e)]
        rw [decide_eq_false e] at h1
        exact h1
    · intro j j1 j2
      by_cases e : j = x
      · rw [e, h3 (16 + x) (by omega), upd_s rfl]
      · exact h2 j (by omega) j2
    · intro j hj
      rw [h3 j (by omega), upd_n (by omega)]
    · intro j j1 j2
      by_cases e : j = x
      · rw [e, h5 (9 + x) (by omega), if_neg (by omega), upd_s rfl]; rfl
      · exact h4 j (by omega) j2
    · intro j hj
      rw [h5 j (by omega)]
      by_cases h9 : 9 ≤ x
      · rw [if_pos h9]
      · rw [if_neg h9, upd_n (by omega)]
/-- the plan that a text begins with -/
def JP0 : JP := (1, 4, 2, (fun a b => !decide (a = b)), (fun _ p => decide (1 ≤ p) && decide (p ≤ 2)), fun _ => 0)
theorem begins_ok {L : JL} {told touches has old_ : Nat → Int32} {F : Nat} (hF : 17 ≤ F) (hL : MR L.1 L.2.1 told touches has old_ L.2.2) : ∃ t' to' h' o', fX10_begins F told touches has old_ = some (t', to', h', o') ∧ DR L JP0 false false 0 0 1 4 2 273 7 7 0 0 t' to' h' o' := by
  obtain ⟨to', o', h1, h2, h3, h4, h5⟩ := begins_loop F 16 0 (upd (upd (upd (upd told 4 1) 5 4) 6 2) 7 0) touches (upd (upd has 2 3) 3 3) old_ (by omega) F (by omega)
  refine ⟨upd (upd (upd (upd told 4 1) 5 4) 6 2) 7 0, to', upd (upd has 2 3) 3 3, o', ?_, ?_⟩
  · unfold fX10_begins lX10_begins_46
    simp only [jl_let_eq, t2, t3, t4, t5, t6, t7]
    exact h1
  · have hw : wornS (fun _ => 0) = 0 := nbp_zero.mpr (fun s p _ p1 _ => decide_eq_false (show ¬ 0 = p by omega))
    have hsh : nb 9 (fun s => decide (pO JP0 s = 9)) = 0 := nb_zero.mpr (fun s _ => rfl)
    refine ⟨⟨by decide, by decide, by decide, by decide, by decide, fun a b => ?_, fun i p hp => ?_, fun s => Or.inl (Nat.zero_le _), fun s _ => rfl⟩, ⟨rfl, rfl, rfl, ⟨273, by decide, rfl, fun a b a1 a3 b1 b3 => ?_⟩, ⟨7, by decide, rfl, fun p p1 p3 => ?_⟩, ⟨7, by decide, rfl, fun p p1 p3 => ?_⟩, ?_, ?_⟩, rfl, rfl, ⟨?_, ?_, ?_, upd_s rfl⟩, fun a b a1 a3 b1 b3 => ?_, fun i hi => ?_, fun s hs => h4 s (by omega) hs, fun _ => ⟨rfl, rfl, fun s => Or.inl rfl⟩, fun _ s => rfl, ?_⟩
    · show (!decide (a = b)) = (!decide (b = a))
      rw [decide_eq_decide.mpr (show a = b ↔ b = a from ⟨Eq.symm, Eq.symm⟩)]
    · have hp : (decide (1 ≤ p) && decide (p ≤ 2)) = true := hp
      rw [Bool.and_eq_true, decide_eq_true_eq, decide_eq_true_eq] at hp
      exact hp
    · have ht : ∀ a, a < 4 → ∀ b, b < 4 → 1 ≤ a → 1 ≤ b → Nat.testBit 273 (3 * (a - 1) + (b - 1)) = !!decide (a = b) := by decide
      exact ht a (by omega) b (by omega) a1 b1
    · have ht : ∀ p, p < 4 → 1 ≤ p → (Nat.testBit 7 (p - 1) && decide (p ≤ 2)) = (decide (1 ≤ p) && decide (p ≤ 2)) := by decide
      exact ht p (by omega) p1
    · have ht : ∀ p, p < 4 → 1 ≤ p → (Nat.testBit 7 (p - 1) && decide (p ≤ 2)) = (decide (1 ≤ p) && decide (p ≤ 2)) := by decide
      exact ht p (by omega) p1
    · show (0 : Int32) = nI (wornS (fun _ => 0))
      rw [hw]; rfl
    · rw [hsh]; rfl
    · rw [upd_n (by omega), upd_n (by omega), upd_n (by omega), upd_s rfl]; rfl
    · rw [upd_n (by omega), upd_n (by omega), upd_s rfl]; rfl
    · rw [upd_n (by omega), upd_s rfl]; rfl
    · rw [h2 (4 * a + b) (by omega) (by omega)]
      have e : ((4 * a + b) / 4 = (4 * a + b) % 4) ↔ (a = b) := by omega
      rw [decide_eq_decide.mpr e]; rfl
    · have hv : nI (nb 3 (fun j => pH JP0 i (j + 1))) = 3 := by
        show nI (nb 3 (fun j => decide (1 ≤ j + 1) && decide (j + 1 ≤ 2))) = 3
        decide
      rw [hv]
      rcases (show i = 0 ∨ i = 1 by omega) with q | q
      · rw [upd_n (by omega), upd_s (by omega)]
      · rw [upd_s (by omega)]
    · obtain ⟨g1, g2, g3, g4, g5, g6⟩ := ((((((hL.told (k := 4) (by omega) 1).told (k := 5) (by omega) 4).told (k := 6) (by omega) 2).told (k := 7) (by omega) 0).has (k := 2) (by omega) 3).has (k := 3) (by omega) 3)
      exact ⟨g1, g2, fun a b x y z w => by rw [h3 _ (by omega)]; exact g3 a b x y z w, g4, fun s hs => by rw [h5 _ (by omega)]; exact g5 s hs, g6⟩
theorem read_ok {L : JL} {len : Nat} {xb yt : Nat → Int32} (hl : len ≤ 200) (h : ITc len xb yt) {F : Nat} (hF : 203 ≤ F) (rat rf rs rst rpt sr sc sp sa s0 s1 so ss yat : Int32) {told touches has old_ : Nat → Int32} (got : Nat → Int32) (hL : MR L.1 L.2.1 told touches has old_ L.2.2) :
    ∃ rx rm, fX4_faultIn F rat rf rs rst rpt (nI len) xb sr sc sp sa s0 s1 so ss = some rx ∧ fX10_fault F (nI len) yat yt told touches has old_ got = some rm ∧ RRes L len rx rm := by
  obtain ⟨t', to', h', o', b1, b2⟩ := begins_ok (F := F) (by omega) hL
  unfold fX4_faultIn fX3_clear fX10_fault lX4_faultIn_21 lX10_fault_9
  rw [b1, Option.bind_some, Option.bind_some]
  exact read_loop hl h hF len 0 0 JP0 false false rf rs 0 0 1 4 2 273 7 7 0 0 t' to' h' o' got (by omega) (by omega) b2 F (by omega)
theorem MR.of {L : JL} {g : JP} {stones : Int32} {told touches has old beside told' touches' has' old' : Nat → Int32} (h : MR g stones told touches has old beside) (e : L = (g, stones, beside)) : MR L.1 L.2.1 told touches has old L.2.2 := by subst e; exact h
theorem st_fault : St_fault Inv_ := by
  intro x_text_length x_text_bytes_ x_reader_at x_reader_first x_reader_second x_reader_stoneTold x_reader_paintTold x_wall_worn x_wall_turn x_wall_order x_wall_pastLength x_wall_heldLength x_wall_past_ x_wall_held_ x_row_length x_row_paintings_ x_game_known_ x_lot_above x_lot_below x_laid_rows x_laid_columns x_laid_paints x_laid_apart x_laid_paintsOf0 x_laid_paintsOf1 x_laid_old x_laid_shut x_laid_all x_laid_firstColumn x_laid_fitsAtFirst x_laid_paintingsOf0 x_laid_paintingsOf1 x_laid_ruledOut_ x_spare_rows x_spare_columns x_spare_paints x_spare_apart x_spare_paintsOf0 x_spare_paintsOf1 x_spare_old x_spare_shut x_spare_all x_spare_firstColumn x_spare_fitsAtFirst x_spare_paintingsOf0 x_spare_paintingsOf1 x_spare_ruledOut_ y_length y_at y_stones y_kept y_done y_rows y_frees y_fewest y_text_ y_told_ y_touches_ y_has_ y_old_ y_beside_ y_slot_ y_row_ y_free_ y_worth_ y_fore_ y_back_ y_got_
  intro hI
  replace hI : InvC x_text_length x_text_bytes_ x_reader_at x_reader_first x_reader_second x_reader_stoneTold x_reader_paintTold x_wall_worn x_wall_turn x_wall_order x_wall_pastLength x_wall_heldLength x_wall_past_ x_wall_held_ x_row_length x_row_paintings_ x_game_known_ x_lot_above x_lot_below x_laid_rows x_laid_columns x_laid_paints x_laid_apart x_laid_paintsOf0 x_laid_paintsOf1 x_laid_old x_laid_shut x_laid_all x_laid_firstColumn x_laid_fitsAtFirst x_laid_paintingsOf0 x_laid_paintingsOf1 x_laid_ruledOut_ x_spare_rows x_spare_columns x_spare_paints x_spare_apart x_spare_paintsOf0 x_spare_paintsOf1 x_spare_old x_spare_shut x_spare_all x_spare_firstColumn x_spare_fitsAtFirst x_spare_paintingsOf0 x_spare_paintingsOf1 x_spare_ruledOut_ y_length y_at y_stones y_kept y_done y_rows y_frees y_fewest y_text_ y_told_ y_touches_ y_has_ y_old_ y_beside_ y_slot_ y_row_ y_free_ y_worth_ y_fore_ y_back_ y_got_ := hI
  obtain ⟨g, w, d, ps, e, ks, r, rs, len, hg, hIT, hXU, hXS, hMR, hIW, hIP, hIH, hIR, hMem⟩ := hI
  obtain ⟨hl, rfl, rfl, hb⟩ := hIT
  obtain ⟨rx, rm, h1, h2, h3⟩ := read_ok (L := (g, y_stones, y_beside_)) hl hb (FU_ge (n := 203) (by omega)) x_reader_at x_reader_first x_reader_second x_reader_stoneTold x_reader_paintTold x_spare_rows x_spare_columns x_spare_paints x_spare_apart x_spare_paintsOf0 x_spare_paintsOf1 x_spare_old x_spare_shut y_at y_got_ hMR
  obtain ⟨x0, x1, x2, x3, x4, x5, x6, x7, x8, x9, x10, x11, x12, x13⟩ := rx
  obtain ⟨y0, y1, y2, y3, y4, y5, y6⟩ := rm
  obtain ⟨h3, h4⟩ := h3
  have hM : MR g y_stones y2 y3 y4 y5 y_beside_ := by
    rcases h4 with ⟨-, g', st, pt, hD⟩ | ⟨-, hM⟩
    · exact hD.mr
    · exact hM
  refine ⟨(x0, x1, x2, x3, x4, x5, x6, x7, x8, x9, x10, x11, x12, x13), (y0, y1, y2, y3, y4, y5, y6), ?_, h2, h3, ?_⟩
  · unfold fX9_fault
    rw [h1]; rfl
  · exact ⟨g, w, d, ps, e, ks, r, rs, len, hg, ⟨hl, rfl, rfl, hb⟩, hXU, hXS, hM, hIW, hIP, hIH, hIR, hMem⟩
