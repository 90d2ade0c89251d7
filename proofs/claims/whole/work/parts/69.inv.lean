/-! the invariant of class and reference -/
def WOK (g : JP) (w : JW) : Prop := CG g w.1 ∧ w.2.2 ≤ 1 ∧ w.2.1.Nodup ∧ (∀ s, s ∈ w.2.1 ↔ (pO g s = 0 ∧ w.1 s ≠ 0)) ∧ (∀ s, pO g s ≠ 0 → w.1 s = pO g s) ∧ (∀ s, w.1 s ≤ pP g ∨ w.1 s = 9)
theorem WOK.lt {g : JP} (hg : GOK g) {w : JW} (h : WOK g w) {s : Nat} (hs : s ∈ w.2.1) : s < pn g ∧ 1 ≤ w.1 s ∧ w.1 s ≤ pP g ∧ pO g s = 0 := by
  have h1 := (h.2.2.2.1 s).mp hs
  have h2 : s < pn g := by
    rcases Nat.lt_or_ge s (pn g) with q | q
    · exact q
    · exact absurd (h.1.2.1 s q) h1.2
  have h3 : w.1 s ≠ 9 := fun e => by have := (h.1.2.2 s).mp e; omega
  have h4 := h.2.2.2.2.2 s
  have h5 := h1.2
  exact ⟨h2, by omega, by omega, h1.1⟩
/-- how many are in a list without doubles -/
theorem ct_mem : ∀ (l : List Nat) (n : Nat), l.Nodup → (∀ s ∈ l, s < n) → fb_ct (fun s => decide (s ∈ l)) n = l.length
  | [], n, _, _ => by
    have : fb_ct (fun s => decide (s ∈ ([] : List Nat))) n = 0 := fb_ct_zero.mpr (fun k _ => by simp)
    simpa using this
  | a :: l, n, hd, hl => by
    rw [List.nodup_cons] at hd
    have ih := ct_mem l n hd.2 (fun s hs => hl s (List.mem_cons_of_mem _ hs))
    have ha := hl a List.mem_cons_self
    have hu := fb_ct_upd (fun s => decide (s ∈ l)) true ha
    have hc : fb_ct (fun s => decide (s ∈ a :: l)) n = fb_ct (fun k => if k = a then true else decide (k ∈ l)) n := fb_ct_cong (fun k _ => by
      by_cases e : k = a
      · subst e; simp
      · simp [e])
    have hna : decide (a ∈ l) = false := by simp [hd.1]
    rw [hc, List.length_cons, ← ih]
    simp only [hna, Bool.false_eq_true, if_false, if_true] at hu
    omega
theorem WOK.len {g : JP} (hg : GOK g) {w : JW} (h : WOK g w) : w.2.1.length ≤ pn g := by
  rw [← ct_mem w.2.1 (pn g) h.2.2.1 (fun s hs => (h.lt hg hs).1)]
  exact fb_ct_le _ _
theorem WOK.pk {g : JP} (hg : GOK g) {w : JW} (h : WOK g w) : PK w :=
  ⟨Nat.le_trans (h.len hg) hg.2.2.1, fun s hs => Nat.lt_of_lt_of_le (h.lt hg hs).1 hg.2.2.1, h.2.1⟩
theorem WOK.len9 {g : JP} (hg : GOK g) {w : JW} (h : WOK g w) : w.2.1.length ≤ 9 := (h.pk hg).1
/-- stones with a painting in a set of paintings -/
def ptdN (m : Nat) : Nat := nb 9 (fun s => m.testBit s || m.testBit (9 + s) || m.testBit (18 + s))
/-- the two games, by what still fits (m), the bare stones (b) and whose turn it is; wi: who wishes (2: nobody) -/
def winN (g : JP) (wi : Nat) : Nat → Nat → Nat → Nat → Bool
  | 0, m, b, t => if wi ≠ 2 ∧ adn b (ptdN m) ≠ 0 then decide (t ≠ wi) else if m &&& canS g t = 0 then decide (wi ≠ 2) && (decide (b = 0) == decide (t = wi)) else false
  | f + 1, m, b, t => if wi ≠ 2 ∧ adn b (ptdN m) ≠ 0 then decide (t ≠ wi) else if m &&& canS g t = 0 then decide (wi ≠ 2) && (decide (b = 0) == decide (t = wi)) else
      !jall (fun i => !(m &&& canS g t).testBit i || winN g wi f (adn m (rulS g (i % 9) (i / 9 + 1))) (adn b (2 ^ (i % 9))) (1 - t)) 27
def MemOK (g : JP) (known : Nat → Int32) : Prop := ∀ c, c < 4096 → ∃ E, E < 2 ^ 32 ∧ known c = nI E ∧ (E % 4 = 0 ∨ ∃ m t wi, m < 2 ^ 27 ∧ t ≤ 1 ∧ wi ≤ 2 ∧ E / 4 = 8 * m + 4 * t + wi ∧ E % 4 = 1 + (winN g wi 9 m (ptdN m) t).toNat)
def IT (len : Nat) (xl : Int32) (xb : Nat → Int32) (yl : Int32) (yt : Nat → Int32) : Prop := len ≤ 200 ∧ xl = nI len ∧ yl = nI len ∧ ∀ i, i < len → xb i = yt i ∧ (yt i).toInt8.toInt32 = yt i
def IPa (g : JP) (d : Nat) (ps : Nat → JW) (xl : Int32) (xp : Nat → Int64) (yd : Int32) (slot : Nat → Int32) : Prop := d ≤ 8 ∧ xl = nI d ∧ yd = nI d ∧ ∀ i, i < d → xp i = lN (pack (ps i)) ∧ SW slot (3 + i) (ps i) ∧ WOK g (ps i)
def IHe (g : JP) (e : Nat) (ks : Nat → JW) (xl : Int32) (xp : Nat → Int64) (yk : Int32) (slot : Nat → Int32) : Prop := e ≤ 2 ∧ xl = nI e ∧ yk = nI e ∧ ∀ i, i < e → xp i = lN (pack (ks i)) ∧ SW slot (1 + i) (ks i) ∧ WOK g (ks i)
def IRo (g : JP) (r : Nat) (rs : Nat → Nat × Nat) (xl : Int32) (xp : Nat → Int32) (yr : Int32) (row : Nat → Int32) : Prop := r ≤ 9 ∧ xl = nI r ∧ yr = nI r ∧ ∀ i, i < r → (rs i).1 < pn g ∧ 1 ≤ (rs i).2 ∧ (rs i).2 ≤ pP g ∧ xp i = nI (2 ^ (9 * ((rs i).2 - 1) + (rs i).1)) ∧ row (2 * i) = nI (rs i).1 ∧ row (2 * i + 1) = nI (rs i).2
def IWl (g : JP) (w : JW) (worn turn : Int32) (order : Int64) (slot : Nat → Int32) : Prop := WOK g w ∧ worn = nI (wornS w.1) ∧ turn = nI w.2.2 ∧ order = lN (encO w.2.1) ∧ SW slot 0 w
def InvC (x_text_length : Int32) (x_text_bytes_ : Nat → Int32) (x_reader_at : Int32) (x_reader_first : Int32) (x_reader_second : Int32) (x_reader_stoneTold : Int32) (x_reader_paintTold : Int32) (x_wall_worn : Int32) (x_wall_turn : Int32) (x_wall_order : Int64) (x_wall_pastLength : Int32) (x_wall_heldLength : Int32) (x_wall_past_ : Nat → Int64) (x_wall_held_ : Nat → Int64) (x_row_length : Int32) (x_row_paintings_ : Nat → Int32) (x_game_known_ : Nat → Int32) (x_lot_above : Int64) (x_lot_below : Int64) (x_laid_rows : Int32) (x_laid_columns : Int32) (x_laid_paints : Int32) (x_laid_apart : Int32) (x_laid_paintsOf0 : Int32) (x_laid_paintsOf1 : Int32) (x_laid_old : Int32) (x_laid_shut : Int32) (x_laid_all : Int32) (x_laid_firstColumn : Int32) (x_laid_fitsAtFirst : Int32) (x_laid_paintingsOf0 : Int32) (x_laid_paintingsOf1 : Int32) (x_laid_ruledOut_ : Nat → Int32) (x_spare_rows : Int32) (x_spare_columns : Int32) (x_spare_paints : Int32) (x_spare_apart : Int32) (x_spare_paintsOf0 : Int32) (x_spare_paintsOf1 : Int32) (x_spare_old : Int32) (x_spare_shut : Int32) (x_spare_all : Int32) (x_spare_firstColumn : Int32) (x_spare_fitsAtFirst : Int32) (x_spare_paintingsOf0 : Int32) (x_spare_paintingsOf1 : Int32) (x_spare_ruledOut_ : Nat → Int32) (y_length : Int32) (y_at : Int32) (y_stones : Int32) (y_kept : Int32) (y_done : Int32) (y_rows : Int32) (y_frees : Int32) (y_fewest : Int32) (y_text_ : Nat → Int32) (y_told_ : Nat → Int32) (y_touches_ : Nat → Int32) (y_has_ : Nat → Int32) (y_old_ : Nat → Int32) (y_beside_ : Nat → Int32) (y_slot_ : Nat → Int32) (y_row_ : Nat → Int32) (y_free_ : Nat → Int32) (y_worth_ : Nat → Int32) (y_fore_ : Nat → Int32) (y_back_ : Nat → Int32) (y_got_ : Nat → Int32) : Prop :=
  ∃ (g : JP) (w : JW) (d : Nat) (ps : Nat → JW) (e : Nat) (ks : Nat → JW) (r : Nat) (rs : Nat → Nat × Nat) (len : Nat), GOK g ∧ IT len x_text_length x_text_bytes_ y_length y_text_ ∧
    XU g x_laid_rows x_laid_columns x_laid_paints x_laid_apart x_laid_paintsOf0 x_laid_paintsOf1 x_laid_old x_laid_shut ∧ XS g x_laid_all x_laid_firstColumn x_laid_fitsAtFirst x_laid_paintingsOf0 x_laid_paintingsOf1 x_laid_ruledOut_ ∧
    MR g y_stones y_told_ y_touches_ y_has_ y_old_ y_beside_ ∧ IWl g w x_wall_worn x_wall_turn x_wall_order y_slot_ ∧ IPa g d ps x_wall_pastLength x_wall_past_ y_done y_slot_ ∧ IHe g e ks x_wall_heldLength x_wall_held_ y_kept y_slot_ ∧
    IRo g r rs x_row_length x_row_paintings_ y_rows y_row_ ∧ MemOK g x_game_known_
def Inv_ (sx : SX) (sm : SM) : Prop := InvC (SX.text_length sx) (SX.text_bytes_ sx) (SX.reader_at sx) (SX.reader_first sx) (SX.reader_second sx) (SX.reader_stoneTold sx) (SX.reader_paintTold sx) (SX.wall_worn sx) (SX.wall_turn sx) (SX.wall_order sx) (SX.wall_pastLength sx) (SX.wall_heldLength sx) (SX.wall_past_ sx) (SX.wall_held_ sx) (SX.row_length sx) (SX.row_paintings_ sx) (SX.game_known_ sx) (SX.lot_above sx) (SX.lot_below sx) (SX.laid_rows sx) (SX.laid_columns sx) (SX.laid_paints sx) (SX.laid_apart sx) (SX.laid_paintsOf0 sx) (SX.laid_paintsOf1 sx) (SX.laid_old sx) (SX.laid_shut sx) (SX.laid_all sx) (SX.laid_firstColumn sx) (SX.laid_fitsAtFirst sx) (SX.laid_paintingsOf0 sx) (SX.laid_paintingsOf1 sx) (SX.laid_ruledOut_ sx) (SX.spare_rows sx) (SX.spare_columns sx) (SX.spare_paints sx) (SX.spare_apart sx) (SX.spare_paintsOf0 sx) (SX.spare_paintsOf1 sx) (SX.spare_old sx) (SX.spare_shut sx) (SX.spare_all sx) (SX.spare_firstColumn sx) (SX.spare_fitsAtFirst sx) (SX.spare_paintingsOf0 sx) (SX.spare_paintingsOf1 sx) (SX.spare_ruledOut_ sx) (SM.length sm) (SM.at sm) (SM.stones sm) (SM.kept sm) (SM.done sm) (SM.rows sm) (SM.frees sm) (SM.fewest sm) (SM.text_ sm) (SM.told_ sm) (SM.touches_ sm) (SM.has_ sm) (SM.old_ sm) (SM.beside_ sm) (SM.slot_ sm) (SM.row_ sm) (SM.free_ sm) (SM.worth_ sm) (SM.fore_ sm) (SM.back_ sm) (SM.got_ sm)
