/-! the reference's table whole; beer, white -/
theorem upd_upd (f : Nat → Int32) (k : Nat) (a b : Int32) : upd (upd f k a) k b = upd f k b := by
  funext i
  by_cases e : i = k
  · rw [upd_s e, upd_s e]
  · rw [upd_n e, upd_n e, upd_n e]
theorem plays_loop {g : JP} (hg : GOK g) {stones : Int32} {told touches has old beside : Nat → Int32} (hM : MR g stones told touches has old beside) {w : JW} (hc : CG g w.1) (hl : w.2.1.length ≤ 9) {wi : Nat} (hw : wi ≤ 2) {s0 : Nat → Int32} (hS : SW s0 11 w) {t F : Nat} (hs19 : s0 19 = nI t) (hF : 11 ≤ F) (ht : t ≤ 1) {free : Nat → Int32} (hfr : ∀ i, i < bc g w.1 → free i = nI (fs g w.1 i)) :
    ∀ r v c0 (worth : Nat → Int32), r ≤ 4 ^ bc g w.1 → More g w.1 c0 → (∀ j, r ≤ j → j < 4 ^ bc g w.1 → worth j = nI (RR g wi 9 (colC g w.1 j) (mvC g w.1 j t)).toNat) → ∃ v' c' worth', More g w.1 c' ∧ (∀ f, r < f → jl_loop5 (bX10_plays_22 F stones told touches has beside (p1of wi)) f (nI r - nI 1) (nI (bc g w.1)) (WS (upd s0 239 v) c0) free worth = some (nI (bc g w.1), WS (upd s0 239 v') c', free, worth')) ∧ ∀ j, j < 4 ^ bc g w.1 → worth' j = nI (RR g wi 9 (colC g w.1 j) (mvC g w.1 j t)).toNat := by
  have hb9 := bc_le hg w.1
  have h49 : 4 ^ bc g w.1 ≤ 4 ^ 9 := Nat.pow_le_pow_right (by omega) hb9
  have e49 : (4 : Nat) ^ 9 = 262144 := by decide
  intro r
  induction r with
  | zero =>
    intro v c0 worth hr h0 hwo
    refine ⟨v, c0, worth, h0, fun f hf => ?_, fun j hj => hwo j (by omega) hj⟩
    obtain ⟨f', rfl⟩ : ∃ f', f = f' + 1 := ⟨f - 1, by omega⟩
    rw [jl_loop5_s]; unfold bX10_plays_22
    rw [if_pos (by decide)]
  | succ r ih =>
    intro v c0 worth hr h0 hwo
    obtain ⟨v', c', worth', i1, i2, i3⟩ := ih (nI (mvC g w.1 r t)) (colC g w.1 r) (upd worth r (nI (RR g wi 9 (colC g w.1 r) (mvC g w.1 r t)).toNat)) (by omega) (fun s h => colC_out s h) (fun j h1 h2 => by
      by_cases e : j = r
      · rw [upd_s e, e]
      · rw [upd_n e]; exact hwo j (by omega) h2)
    refine ⟨v', c', worth', i1, fun f hf => ?_, i3⟩
    obtain ⟨f', rfl⟩ : ∃ f', f = f' + 1 := ⟨f - 1, by omega⟩
    have hr' := i2 f' (by omega)
    have hsub : nI (r + 1) - nI 1 = nI r := pk_sub (by omega)
    have hfi := fills_ok hg (w := w.1) hfr (upd s0 239 v) h0 (code := r) (t := t) (F := F) (by omega) ht hF
    rw [upd_upd] at hfi
    have h19 : WS (upd s0 239 v) c0 19 = nI t := by
      rw [WS_kept (by omega), upd_n (by omega)]; exact hs19
    have h239 : WS (upd s0 239 (nI (mvC g w.1 r t))) (colC g w.1 r) 239 = nI (mvC g w.1 r t) := by
      rw [WS_kept (by omega), upd_s rfl]
    rw [jl_loop5_s]
    generalize jl_loop5 (bX10_plays_22 F stones told touches has beside (p1of wi)) f' = K at hr' ⊢
    unfold bX10_plays_22 lX10_plays_59
    rw [hsub, if_neg (nI_pos (by omega)), show ((19 : Int32)).toNatClampNeg = 19 from by decide, h19, hfi, Option.bind_some, show ((239 : Int32)).toNatClampNeg = 239 from by decide, h239, jl_let_eq]
    refine Eq.trans ?_ hr'
    exact plays_mid hg hM hc hl hw hS hF ht (by omega) hfr (fun j h1 h2 => hwo j (by omega) h2) K (bc g w.1) 0 (by omega) F (by omega)
theorem plays_ok {g : JP} (hg : GOK g) {stones : Int32} {told touches has old beside : Nat → Int32} (hM : MR g stones told touches has old beside) {w : JW} (hW : WOK g w) {wi : Nat} (hw : wi ≤ 2) {slot : Nat → Int32} (hS : SW slot 0 w) (frees : Int32) (free worth : Nat → Int32) :
    ∃ s0 v c free' worth', More g w.1 c ∧ (∀ j, j < 220 → s0 j = slot j) ∧ fX10_plays FU stones frees told touches has beside slot free worth (p1of wi) = some (nI (bc g w.1), WS (upd s0 239 v) c, free', worth') ∧ (∀ i, i < bc g w.1 → free' i = nI (fs g w.1 i)) ∧ ∀ j, j < 4 ^ bc g w.1 → worth' j = nI (RR g wi 9 (colC g w.1 j) (mvC g w.1 j w.2.2)).toNat := by
  have hb9 := bc_le hg w.1
  have hn9 := hg.2.2.1
  have h49 : 4 ^ bc g w.1 ≤ 4 ^ 9 := Nat.pow_le_pow_right (by omega) hb9
  have e49 : (4 : Nat) ^ 9 = 262144 := by decide
  have hl := hW.len9 hg
  obtain ⟨s0, c1, c2⟩ := copies_ok (slot := slot) (a := 0) (b := 11) (F := FU) (by omega) (by omega) (by omega) (FU_ge (by omega))
  have hS0 := hS.cp hl c2
  obtain ⟨free', f1, f2⟩ := freed_ok hn9 hS0.1 hW.1.1 (fr0 := frees) (free0 := free) (F := FU) (FU_ge (by omega))
  rw [zl_bc] at f1 f2
  have hs19 : s0 19 = nI w.2.2 := by
    rw [c2.2 19 (by omega)]
    have := hS.2.2.2
    exact this
  have hself : WS (upd s0 239 (s0 239)) w.1 = s0 := by
    have : upd s0 239 (s0 239) = s0 := by
      funext i
      by_cases e : i = 239
      · rw [upd_s e, e]
      · rw [upd_n e]
    rw [this]; exact WS_self hS0.1
  obtain ⟨v', c', worth', i1, i2, i3⟩ := plays_loop hg hM hW.1 hl hw hS0 (t := w.2.2) (F := FU) hs19 (FU_ge (by omega)) hW.2.1 f2 (4 ^ bc g w.1) (s0 239) w.1 worth (Nat.le_refl _) (fun s _ => rfl) (fun j h1 h2 => by omega)
  rw [hself] at i2
  refine ⟨s0, v', c', free', worth', i1, fun j hj => c2.2 j (by omega), ?_, f2, i3⟩
  unfold fX10_plays
  rw [show (0 : Int32) = nI 0 from rfl, show (11 : Int32) = nI 11 from rfl, c1, Option.bind_some, hM.1, f1, Option.bind_some]
  have e1 : ((1 : Int32) <<< (((2 : Int32) * nI (bc g w.1)) &&& 31)) - 1 = nI (4 ^ bc g w.1) - nI 1 := by
    have e2 : (2 : Int32) * nI (bc g w.1) = nI (2 * bc g w.1) := pk_mul 2 _
    rw [e2, one_shl (by omega), Nat.pow_mul, show (2 : Nat) ^ 2 = 4 from rfl]; rfl
  dsimp only
  rw [e1, jl_let_eq]
  unfold lX10_plays_22
  rw [← hM.1]
  exact i2 FU (by show _ < 1000000; omega)
/-- the lowest painting that wins: the reference -/
theorem wins_in {g : JP} (hg : GOK g) {stones : Int32} {told touches has old beside : Nat → Int32} (hM : MR g stones told touches has old beside) {w : JW} (hW : WOK g w) {wi : Nat} {slot free worth : Nat → Int32} (hS : SW slot 0 w) (hfr : ∀ i, i < bc g w.1 → free i = nI (fs g w.1 i)) (hwo : ∀ j, j < 4 ^ bc g w.1 → worth j = nI (RR g wi 9 (colC g w.1 j) (mvC g w.1 j w.2.2)).toNat) {F k : Nat} (hF : 10 ≤ F) (hk : k < bc g w.1)
    (hpre : ∀ s' p', s' < fs g w.1 k → 1 ≤ p' → p' ≤ 3 → good g wi w.1 w.2.2 s' p' = false) :
    ∀ m q, q + m = pP g → (∀ p', 1 ≤ p' → p' ≤ q → good g wi w.1 w.2.2 (fs g w.1 k) p' = false) → ((∃ r, FG (good g wi w.1 w.2.2) r ∧ ∀ K f, m < f → jl_loop3 (bX10_wins_24 F stones (nI (bc g w.1)) told touches has beside free worth K) f (nI k) (nI (q + 1)) slot = some (r, slot)) ∨ ((∀ p', 1 ≤ p' → p' ≤ pP g → good g wi w.1 w.2.2 (fs g w.1 k) p' = false) ∧ ∀ K f, m < f → jl_loop3 (bX10_wins_24 F stones (nI (bc g w.1)) told touches has beside free worth K) f (nI k) (nI (q + 1)) slot = K (nI (k + 1)) slot)) := by
  have hb9 := bc_le hg w.1
  have hn9 := hg.2.2.1
  have hP := hg.2.2.2.2.1
  have h49 : 4 ^ bc g w.1 ≤ 4 ^ 9 := Nat.pow_le_pow_right (by omega) hb9
  have e49 : (4 : Nat) ^ 9 = 262144 := by decide
  obtain ⟨a, b, c⟩ := fs_ok hk
  have gk : ¬ (nI k < 0 ∨ 9 ≤ k) := by
    rintro (z | z)
    · exact nI_pos (by omega) z
    · omega
  intro m
  induction m with
  | zero =>
    intro q hq hbef
    refine Or.inr ⟨fun p' p1 p3 => hbef p' p1 (by omega), fun K f hf => ?_⟩
    obtain ⟨f', rfl⟩ : ∃ f', f = f' + 1 := ⟨f - 1, by omega⟩
    rw [jl_loop3_s]; unfold bX10_wins_24
    rw [c2, hM.2.1.2.2, if_pos (by rw [nI_ltI (by omega) (by omega)]; omega), jl_let_eq, show nI k + Int32.ofInt 1 = nI (k + 1) from nI_add k 1]
  | succ m ih =>
    intro q hq hbef
    have hmay : fX10_isMay F stones touches has beside slot (0 : Int32) (nI (fs g w.1 k)) (nI (q + 1)) = some (nI (mayA g w.1 w.2.2 (fs g w.1 k) (q + 1)).toNat) := isMay_ok hg hM hW.1.1 (k := 0) (by omega) hS a hW.2.1 (by omega) (by omega) hF
    have hgd := good_may (wi := wi) (c := w.1) (x := w.2.2) hg a (show 1 ≤ q + 1 by omega) (show q + 1 ≤ 3 by omega)
    have hz0 : colC g w.1 0 (fs g w.1 k) = 0 := by rw [colC_0]; exact b
    have hcs := col_step (p := q + 1) hk hz0 (by omega)
    have hms := mv_step (p := q + 1) (t := w.2.2) hk hz0 (by omega) (by omega)
    rw [colC_0, Nat.zero_add] at hcs
    rw [mvC_0 g w.1 hW.2.1, Nat.zero_add] at hms
    have hlt := dg_lt (code := 0) (p := q + 1) (j := bc g w.1 - 1 - k) (n := bc g w.1) (by unfold dg; rw [Nat.zero_div]) (by omega) (by omega) (Nat.pow_pos (by omega))
    rw [Nat.zero_add] at hlt
    have hwv := hwo _ hlt
    rw [hcs, hms] at hwv
    have hone : nI (q + 1) + Int32.ofInt 1 = nI (q + 1 + 1) := nI_add (q + 1) 1
    have hst := step_ok hb9 hk
    have step : ∀ (K : Int32 → (Nat → Int32) → Option (Int32 × (Nat → Int32))) (L : Int32 → Int32 → (Nat → Int32) → Option (Int32 × (Nat → Int32))), bX10_wins_24 F stones (nI (bc g w.1)) told touches has beside free worth K L (nI k) (nI (q + 1)) slot = if good g wi w.1 w.2.2 (fs g w.1 k) (q + 1) = true then some (nI (10 * fs g w.1 k + (q + 1)), slot) else L (nI k) (nI (q + 1 + 1)) slot := by
      intro K L
      unfold bX10_wins_24
      rw [c2, hM.2.1.2.2, if_neg (by rw [nI_ltI (by omega) (by omega)]; omega), nI_clamp (by omega), if_neg gk, if_neg gk, hfr k hk, hmay, Option.bind_some, hst, Option.bind_some, pk_mul, nI_clamp (by omega), hwv, jl_let_eq, hone, hgd, show (10 : Int32) = nI 10 from rfl, pk_mul, nI_add]
      cases mayA g w.1 w.2.2 (fs g w.1 k) (q + 1) with
      | false => rw [if_pos (show nI false.toNat = 0 from rfl), if_neg (by rw [Bool.false_and]; decide)]
      | true =>
        rw [if_neg (show ¬ nI true.toNat = 0 by decide), if_neg (by
          rintro (z | z)
          · exact nI_pos (by omega) z
          · omega)]
        cases RR g wi 9 (upc w.1 (fs g w.1 k) (q + 1)) (1 - w.2.2) with
        | false => rw [if_pos (show nI false.toNat = 0 from rfl), if_pos (show (true && !false) = true from rfl)]
        | true => rw [if_neg (show ¬ nI true.toNat = 0 by decide), if_neg (show ¬ (true && !true) = true by decide)]
    cases hG : good g wi w.1 w.2.2 (fs g w.1 k) (q + 1) with
    | true =>
      refine Or.inl ⟨nI (10 * fs g w.1 k + (q + 1)), Or.inr ⟨fs g w.1 k, q + 1, by omega, by omega, by omega, hG, fun s' p' s9 p1 p3 h => ?_, rfl⟩, fun K f hf => ?_⟩
      · rcases h with h | ⟨rfl, h⟩
        · exact hpre s' p' h p1 p3
        · exact hbef p' p1 (by omega)
      · obtain ⟨f', rfl⟩ : ∃ f', f = f' + 1 := ⟨f - 1, by omega⟩
        rw [jl_loop3_s, step, if_pos hG]
    | false =>
      rcases ih (q + 1) (by omega) (fun p' p1 p3 => by
        by_cases e : p' = q + 1
        · rw [e]; exact hG
        · exact hbef p' p1 (by omega)) with ⟨r, r1, r2⟩ | ⟨r1, r2⟩
      · refine Or.inl ⟨r, r1, fun K f hf => ?_⟩
        obtain ⟨f', rfl⟩ : ∃ f', f = f' + 1 := ⟨f - 1, by omega⟩
        rw [jl_loop3_s, step, if_neg (by rw [hG]; decide)]
        exact r2 K f' (by omega)
      · refine Or.inr ⟨r1, fun K f hf => ?_⟩
        obtain ⟨f', rfl⟩ : ∃ f', f = f' + 1 := ⟨f - 1, by omega⟩
        rw [jl_loop3_s, step, if_neg (by rw [hG]; decide)]
        exact r2 K f' (by omega)
/-- what is not among the bare stones, or of no paint that there is, is no good painting -/
theorem good_of {g : JP} (hg : GOK g) {wi : Nat} {c : Nat → Nat} {t s p : Nat} (hs : s < 9) (h1 : 1 ≤ p) (h3 : p ≤ 3) (h : good g wi c t s p = true) : s < pn g ∧ c s = 0 ∧ p ≤ pP g := by
  unfold good at h
  rw [Bool.and_eq_true] at h
  have hb := h.1
  obtain ⟨q1, q2, q3, q4, q5⟩ := ch_of hb
  rw [show (9 * (p - 1) + s) % 9 = s by omega] at q2 q3
  rw [ch_tb, show (9 * (p - 1) + s) % 9 = s by omega, show (9 * (p - 1) + s) / 9 + 1 = p by omega] at hb
  simp only [mayA, Bool.and_eq_true] at hb
  exact ⟨q2, q3, (hg.2.2.2.2.2.2.1 _ _ hb.2.2.2.1).2⟩
theorem wins_out {g : JP} (hg : GOK g) {stones : Int32} {told touches has old beside : Nat → Int32} (hM : MR g stones told touches has old beside) {w : JW} (hW : WOK g w) {wi : Nat} {slot free worth : Nat → Int32} (hS : SW slot 0 w) (hfr : ∀ i, i < bc g w.1 → free i = nI (fs g w.1 i)) (hwo : ∀ j, j < 4 ^ bc g w.1 → worth j = nI (RR g wi 9 (colC g w.1 j) (mvC g w.1 j w.2.2)).toNat) {F : Nat} (hF : 10 ≤ F) :
    ∀ m k, k + m = bc g w.1 → (∀ s' p', s' < 9 → 1 ≤ p' → p' ≤ 3 → w.1 s' = 0 → ix w.1 s' < k → good g wi w.1 w.2.2 s' p' = false) → ∃ r, FG (good g wi w.1 w.2.2) r ∧ ∀ f, m < f → jl_loop2 (bX10_wins_14 F stones (nI (bc g w.1)) told touches has beside free worth) f (nI k) slot = some (r, slot) := by
  have hb9 := bc_le hg w.1
  have hn9 := hg.2.2.1
  have hP := hg.2.2.2.2.1
  intro m
  induction m with
  | zero =>
    intro k hk hpre
    refine ⟨-4, Or.inl ⟨fun s p s9 p1 p3 => ?_, rfl⟩, fun f hf => ?_⟩
    · cases h : good g wi w.1 w.2.2 s p with
      | false => rfl
      | true =>
        obtain ⟨a, b, c⟩ := good_of hg s9 p1 p3 h
        have := ix_lt a b
        rw [hpre s p s9 p1 p3 b (by omega)] at h; cases h
    · obtain ⟨f', rfl⟩ : ∃ f', f = f' + 1 := ⟨f - 1, by omega⟩
      rw [jl_loop2_s]; unfold bX10_wins_14
      rw [if_pos (by rw [nI_leI (by omega) (by omega)]; omega)]
  | succ m ih =>
    intro k hk hpre
    obtain ⟨a, b, c⟩ := fs_ok (g := g) (w := w.1) (k := k) (by omega)
    have hin := wins_in hg hM hW (wi := wi) hS hfr hwo hF (show k < bc g w.1 by omega) (fun s' p' h p1 p3 => by
      cases hx : good g wi w.1 w.2.2 s' p' with
      | false => rfl
      | true =>
        obtain ⟨a', b', c'⟩ := good_of hg (show s' < 9 by omega) p1 p3 hx
        have := ix_mono b' h
        rw [hpre s' p' (by omega) p1 p3 b' (by omega)] at hx; cases hx) (pP g) 0 (by omega) (fun p' p1 p3 => by omega)
    rcases hin with ⟨r, r1, r2⟩ | ⟨r1, r2⟩
    · refine ⟨r, r1, fun f hf => ?_⟩
      obtain ⟨f', rfl⟩ : ∃ f', f = f' + 1 := ⟨f - 1, by omega⟩
      rw [jl_loop2_s]; unfold bX10_wins_14 lX10_wins_24
      rw [if_neg (by rw [nI_leI (by omega) (by omega)]; omega)]
      exact r2 _ F (by omega)
    · obtain ⟨r, h1, h2⟩ := ih (k + 1) (by omega) (fun s' p' s9 p1 p3 z hi => by
        by_cases e : ix w.1 s' = k
        · have : s' = fs g w.1 k := ix_inj z b (by rw [e, c])
          cases hx : good g wi w.1 w.2.2 s' p' with
          | false => rfl
          | true =>
            obtain ⟨a', b', c'⟩ := good_of hg s9 p1 p3 hx
            rw [this, r1 p' p1 c'] at hx; cases hx
        · exact hpre s' p' s9 p1 p3 z (by omega))
      refine ⟨r, h1, fun f hf => ?_⟩
      obtain ⟨f', rfl⟩ : ∃ f', f = f' + 1 := ⟨f - 1, by omega⟩
      rw [jl_loop2_s]; unfold bX10_wins_14 lX10_wins_24
      rw [if_neg (by rw [nI_leI (by omega) (by omega)]; omega)]
      exact Eq.trans (r2 _ F (by omega)) (h2 f' (by omega))
theorem SW_low {slot slot' : Nat → Int32} {w : JW} (h : SW slot 0 w) (hl : w.2.1.length ≤ 9) (hk : ∀ j, j < 220 → slot' j = slot j) : SW slot' 0 w := h.kept hl (fun i _ h2 => hk i (by omega))
theorem wins_ok {g : JP} (hg : GOK g) {stones : Int32} {told touches has old beside : Nat → Int32} (hM : MR g stones told touches has old beside) {w : JW} (hW : WOK g w) {wi : Nat} {s0 free worth : Nat → Int32} {v : Int32} {c : Nat → Nat} (hc : More g w.1 c) (hS : SW s0 0 w) (hfr : ∀ i, i < bc g w.1 → free i = nI (fs g w.1 i)) (hwo : ∀ j, j < 4 ^ bc g w.1 → worth j = nI (RR g wi 9 (colC g w.1 j) (mvC g w.1 j w.2.2)).toNat) :
    ∃ r slot', fX10_wins FU stones (nI (bc g w.1)) told touches has beside (WS (upd s0 239 v) c) free worth = some (r, slot') ∧ FG (good g wi w.1 w.2.2) r ∧ ∀ j, j < 220 → slot' j = s0 j := by
  have hb9 := bc_le hg w.1
  have hl := hW.len9 hg
  have hfi := fills_ok hg (w := w.1) hfr (upd s0 239 v) hc (code := 0) (t := w.2.2) (F := FU) (by decide) hW.2.1 (FU_ge (by omega))
  rw [upd_upd] at hfi
  have hlow : ∀ j, j < 220 → WS (upd s0 239 (nI (mvC g w.1 0 w.2.2))) (colC g w.1 0) j = s0 j := fun j hj => by
    rw [WS_kept (by omega), upd_n (by omega)]
  have h19 : WS (upd s0 239 v) c 19 = nI w.2.2 := by
    rw [WS_kept (by omega), upd_n (by omega)]
    exact hS.2.2.2
  obtain ⟨r, h1, h2⟩ := wins_out hg hM hW (wi := wi) (SW_low hS hl hlow) hfr hwo (F := FU) (FU_ge (by omega)) (bc g w.1) 0 (by omega) (fun s' p' _ _ _ _ h => absurd h (Nat.not_lt_zero _))
  refine ⟨r, _, ?_, h1, hlow⟩
  unfold fX10_wins lX10_wins_14
  rw [show ((19 : Int32)).toNatClampNeg = 19 from by decide, h19, show (0 : Int32) = nI 0 from rfl, hfi, Option.bind_some]
  exact h2 FU (by show _ < 1000000; omega)
theorem FG_bool {g : JP} (hg : GOK g) {c : Nat → Nat} {t : Nat} {r : Int32} (h : FG (good g 2 c t) r) : (r = -4) ↔ RR g 2 9 c t = false := by
  rw [FG_none h]
  by_cases hz : chS g c t = 0
  · rw [RR_eq hg, if_pos hz]
    exact ⟨fun _ => rfl, fun _ s p _ _ _ => good_stuck hz s p⟩
  · exact (RR_good hg hz).symm
theorem in01N {p : Int32} : fX10_in p.toInt64 (0 : Int64) (1 : Int64) = some (nI (isN p 2).toNat) := by
  rw [in_ok]
  have hr := fb_rng p
  have : (decide ((0 : Int64).toInt ≤ p.toInt64.toInt) && decide (p.toInt64.toInt ≤ (1 : Int64).toInt)) = isN p 2 := by
    unfold isN
    rw [i2l_toInt, show (0 : Int64).toInt = 0 from by decide, show (1 : Int64).toInt = 1 from by decide]
    congr 1
    apply decide_eq_decide.mpr; omega
  rw [this]
theorem isN2 {p : Int32} (h : isN p 2 = true) : p = 0 ∨ p = 1 := by
  obtain ⟨k, h1, h2, rfl⟩ := isN_iff.mp h
  rcases (show k = 0 ∨ k = 1 by omega) with rfl | rfl
  · exact Or.inl rfl
  · exact Or.inr rfl
theorem isN2n {p : Int32} (h : isN p 2 = false) : p ≠ 0 ∧ p ≠ 1 := by
  refine ⟨fun e => ?_, fun e => ?_⟩ <;> rw [e] at h <;> revert h <;> decide
set_option maxHeartbeats 2000000 in
theorem st_beer : St_beer Inv_ := by
  intro x_text_length x_text_bytes_ x_reader_at x_reader_first x_reader_second x_reader_stoneTold x_reader_paintTold x_wall_worn x_wall_turn x_wall_order x_wall_pastLength x_wall_heldLength x_wall_past_ x_wall_held_ x_row_length x_row_paintings_ x_game_known_ x_lot_above x_lot_below x_laid_rows x_laid_columns x_laid_paints x_laid_apart x_laid_paintsOf0 x_laid_paintsOf1 x_laid_old x_laid_shut x_laid_all x_laid_firstColumn x_laid_fitsAtFirst x_laid_paintingsOf0 x_laid_paintingsOf1 x_laid_ruledOut_ x_spare_rows x_spare_columns x_spare_paints x_spare_apart x_spare_paintsOf0 x_spare_paintsOf1 x_spare_old x_spare_shut x_spare_all x_spare_firstColumn x_spare_fitsAtFirst x_spare_paintingsOf0 x_spare_paintingsOf1 x_spare_ruledOut_ y_length y_at y_stones y_kept y_done y_rows y_frees y_fewest y_text_ y_told_ y_touches_ y_has_ y_old_ y_beside_ y_slot_ y_row_ y_free_ y_worth_ y_fore_ y_back_ y_got_
  intro p1 hI
  have hI0 := hI
  replace hI : InvC x_text_length x_text_bytes_ x_reader_at x_reader_first x_reader_second x_reader_stoneTold x_reader_paintTold x_wall_worn x_wall_turn x_wall_order x_wall_pastLength x_wall_heldLength x_wall_past_ x_wall_held_ x_row_length x_row_paintings_ x_game_known_ x_lot_above x_lot_below x_laid_rows x_laid_columns x_laid_paints x_laid_apart x_laid_paintsOf0 x_laid_paintsOf1 x_laid_old x_laid_shut x_laid_all x_laid_firstColumn x_laid_fitsAtFirst x_laid_paintingsOf0 x_laid_paintingsOf1 x_laid_ruledOut_ x_spare_rows x_spare_columns x_spare_paints x_spare_apart x_spare_paintsOf0 x_spare_paintsOf1 x_spare_old x_spare_shut x_spare_all x_spare_firstColumn x_spare_fitsAtFirst x_spare_paintingsOf0 x_spare_paintingsOf1 x_spare_ruledOut_ y_length y_at y_stones y_kept y_done y_rows y_frees y_fewest y_text_ y_told_ y_touches_ y_has_ y_old_ y_beside_ y_slot_ y_row_ y_free_ y_worth_ y_fore_ y_back_ y_got_ := hI
  obtain ⟨g, w, d, ps, e, ks, r, rs, len, hg, hIT, hXU, hXS, hMR, hIW, hIP, hIH, hIR, hMem⟩ := hI
  obtain ⟨hW, rfl, rfl, hor, hSW⟩ := hIW
  have hl := hW.len9 hg
  have hF : 29 ≤ FU := FU_ge (by omega)
  cases e1 : isN p1 2 with
  | false =>
    obtain ⟨n0, n1⟩ := isN2n e1
    refine ⟨(-1, x_game_known_), (-1, y_frees, y_slot_, y_free_, y_worth_), ?_, ?_, rfl, hI0⟩
    · unfold fX9_beer
      rw [if_neg n0, if_neg n1]
    · unfold fX10_beer
      rw [in01N, e1, Option.bind_some, if_f]
  | true =>
    obtain ⟨r0, kn, h1, h2, h3⟩ := x_lowestGood hg hXS (wi := 2) (by omega) hW.1 hW.2.1 hF hMem
    obtain ⟨s0, v, c, free', worth', i1, i2, i3, i4, i5⟩ := plays_ok hg hMR hW (wi := 2) (by omega) hSW y_frees y_free_ y_worth_
    have hS0 := SW_low hSW hl i2
    obtain ⟨r', slot', j1, j2, j3⟩ := wins_ok hg hMR hW (wi := 2) (v := v) i1 hS0 i4 i5
    have hrr := FG_one h2 j2
    subst hrr
    have hlow : ∀ j, j < 220 → WS (upd s0 239 v) c j = y_slot_ j := fun j hj => by
      rw [WS_kept (by omega), upd_n (by omega)]; exact i2 j hj
    rw [show p1of 2 = -1 from rfl] at i3
    rw [hXU.2.2.2.2.2.2.2] at *
    rcases isN2 e1 with rfl | rfl
    · have hw0 := i5 0 (Nat.pow_pos (by omega))
      rw [colC_0, mvC_0 g w.1 hW.2.1] at hw0
      have hb := FG_bool hg h2
      obtain ⟨k1, k2, k3⟩ := slot_low hg hW hSW hIP hIH hlow
      refine ⟨(nI (RR g 2 9 w.1 w.2.2).toNat, kn), (nI (RR g 2 9 w.1 w.2.2).toNat, nI (bc g w.1), WS (upd s0 239 v) c, free', worth'), ?_, ?_, rfl, ?_⟩
      · unfold fX9_beer fX9_beer_11
        rw [if_pos rfl, show (2 : Int32) = nI 2 from rfl, h1, Option.bind_some]
        dsimp only
        rw [jl_let_eq, if_neg (show ¬ (0 : Int32) = 1 by decide)]
        cases hR : RR g 2 9 w.1 w.2.2 with
        | false => rw [if_pos (hb.mpr hR)]; rfl
        | true => rw [if_neg (fun q => by rw [hb.mp q] at hR; cases hR)]; rfl
      · unfold fX10_beer
        rw [in01N, e1, Option.bind_some, if_t, i3, Option.bind_some, if_pos rfl]
        dsimp only
        rw [t0, hw0]
      · exact ⟨g, w, d, ps, e, ks, r, rs, len, hg, hIT, hXU, hXS, hMR, ⟨hW, rfl, rfl, hor, k1⟩, k2, k3, hIR, h3⟩
    · obtain ⟨k1, k2, k3⟩ := slot_low hg hW hSW hIP hIH (slot' := slot') (fun j hj => by rw [j3 j hj]; exact i2 j hj)
      refine ⟨(r0, kn), (r0, nI (bc g w.1), slot', free', worth'), ?_, ?_, rfl, ?_⟩
      · unfold fX9_beer fX9_beer_11
        rw [if_neg (show ¬ (1 : Int32) = 0 by decide), if_pos rfl, show (2 : Int32) = nI 2 from rfl, h1, Option.bind_some]
        dsimp only
        rw [jl_let_eq, if_pos rfl]
      · unfold fX10_beer
        rw [in01N, e1, Option.bind_some, if_t, i3, Option.bind_some, if_neg (show ¬ (1 : Int32) = 0 by decide)]
        dsimp only
        rw [j1, Option.bind_some]
      · exact ⟨g, w, d, ps, e, ks, r, rs, len, hg, hIT, hXU, hXS, hMR, ⟨hW, rfl, rfl, hor, k1⟩, k2, k3, hIR, h3⟩
