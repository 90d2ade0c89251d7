/-! stands of the wall packed; what can be undone -/
def encO (l : List Nat) : Nat := l.foldl (fun a s => a * 16 + s) 0
theorem encO_snoc (l : List Nat) (s : Nat) : encO (l ++ [s]) = encO l * 16 + s := by simp [encO, List.foldl_append]
theorem encO_lt_aux : ∀ (l : List Nat) (a : Nat), (∀ s ∈ l, s < 16) → l.foldl (fun a s => a * 16 + s) a < (a + 1) * 16 ^ l.length
  | [], a, _ => by simp
  | s :: l, a, h => by
    have h1 := encO_lt_aux l (a * 16 + s) (fun t ht => h t (List.mem_cons_of_mem _ ht))
    have h2 := h s List.mem_cons_self
    rw [List.foldl_cons, List.length_cons, Nat.pow_succ]
    refine Nat.lt_of_lt_of_le h1 ?_
    rw [← Nat.mul_assoc, Nat.mul_right_comm]
    exact Nat.mul_le_mul_right _ (by omega)
theorem encO_lt (l : List Nat) (h : ∀ s ∈ l, s < 16) : encO l < 16 ^ l.length := by
  have := encO_lt_aux l 0 h
  rw [Nat.zero_add, Nat.one_mul] at this; exact this
/-- stands that the class can pack -/
def PK (w : JW) : Prop := w.2.1.length ≤ 9 ∧ (∀ s ∈ w.2.1, s < 9) ∧ w.2.2 ≤ 1
theorem PK.enc {w : JW} (h : PK w) : encO w.2.1 < 2 ^ 36 := by
  have h1 := encO_lt w.2.1 (fun s hs => Nat.lt_of_lt_of_le (h.2.1 s hs) (by omega))
  have h2 : 16 ^ w.2.1.length ≤ 16 ^ 9 := Nat.pow_le_pow_right (by omega) h.1
  have : (16 : Nat) ^ 9 = 2 ^ 36 := by decide
  omega
def pack (w : JW) : Nat := 2 ^ 27 * (2 ^ 1 * encO w.2.1 + w.2.2) + wornS w.1
theorem wornS_lt (c : Nat → Nat) : wornS c < 2 ^ 27 := nbp_lt _
theorem pack_lt {w : JW} (h : PK w) : pack w < 2 ^ 64 := by
  have h1 := h.enc
  have h2 := wornS_lt w.1
  have h3 := h.2.2
  unfold pack; omega
theorem x_packed {w : JW} (h : PK w) : fX7_packed (nI (wornS w.1)) (nI w.2.2) (lN (encO w.2.1)) = some (lN (pack w)) := by
  have h1 := h.enc
  have h2 := wornS_lt w.1
  have h3 := h.2.2
  unfold fX7_packed
  rw [show (1 : Int32) = nI 1 from rfl, show (27 : Int32) = nI 27 from rfl, wb_shl (encO w.2.1) (k := 1) (by omega), nI_l (n := w.2.2) (by omega), Nat.mul_comm (encO w.2.1), fb_or_sumL _ (by omega), wb_shl _ (k := 27) (by omega), nI_l (n := wornS w.1) (by omega), Nat.mul_comm (_ + _), fb_or_sumL _ h2]
  rfl
theorem x_standAs {w : JW} (h : PK w) (a b : Int32) (c : Int64) : fX7_standAs a b c (lN (pack w)) = some (nI (wornS w.1), nI w.2.2, lN (encO w.2.1)) := by
  have h1 := h.enc
  have h2 := wornS_lt w.1
  have h3 := h.2.2
  have hp := pack_lt h
  unfold fX7_standAs
  have l1 : (134217727 : Int64) = lN (2 ^ 27 - 1) := by decide
  have l2 : (1 : Int64) = lN (2 ^ 1 - 1) := by decide
  simp only [jl_let_eq]
  rw [l1, wb_mask hp (by omega), lN_i, show (27 : Int32) = nI 27 from rfl, show (28 : Int32) = nI 28 from rfl, wb_shr hp (by omega), wb_shr hp (by omega), l2, wb_mask (by omega) (by omega), lN_i]
  have e1 : pack w % 2 ^ 27 = wornS w.1 := by unfold pack; omega
  have e2 : pack w / 2 ^ 27 % 2 ^ 1 = w.2.2 := by unfold pack; omega
  have e3 : pack w / 2 ^ 28 = encO w.2.1 := by unfold pack; omega
  rw [e1, e2, e3]
/-- one more that can be undone: the last 8 -/
def pushP (d : Nat) (ps : Nat → JW) (w : JW) : Nat → JW := if d < 8 then fun i => if i = d then w else ps i else fun i => if i = 7 then w else ps (i + 1)
def pushD (d : Nat) : Nat := if d < 8 then d + 1 else 8
theorem updL_s {f : Nat → Int64} {k j : Nat} {x : Int64} (h : j = k) : vp_updL f k x j = x := by subst h; exact pk_uLs
theorem updL_n {f : Nat → Int64} {k j : Nat} {x : Int64} (h : j ≠ k) : vp_updL f k x j = f j := pk_uLn h
theorem x_note {w : JW} (h : PK w) {d : Nat} (hd : d ≤ 8) {past : Nat → Int64} {ps : Nat → JW} (hp : ∀ i, i < d → past i = lN (pack (ps i))) : ∃ past', fX7_noteForUndo (nI (wornS w.1)) (nI w.2.2) (lN (encO w.2.1)) (nI d) past = some (nI (pushD d), past') ∧ ∀ i, i < pushD d → past' i = lN (pack (pushP d ps w i)) := by
  have base : ∀ (e : Nat) (p0 : Nat → Int64), e < 8 → fX7_noteForUndo_43 (nI (wornS w.1)) (nI w.2.2) (lN (encO w.2.1)) (nI e) p0 = some (nI (e + 1), vp_updL p0 e (lN (pack w))) := by
    intro e p0 he
    unfold fX7_noteForUndo_43
    have a0 : ¬ 8 ≤ e := by omega
    simp (disch := omega) only [fa_lit, ni_bit, b2n_0, b2n_1, ni_m1, ni_of1, ni_ofm1, nI_add, pk_mul, nI_clamp, ni_lt, ni_le, ni_eq, ni_l, fa_litL, ln_le, ln_lt, ln_eq, jl_let_eq, Option.bind_some, ↓reduceIte, a0, x_packed h, Nat.not_lt_zero, or_self]
  unfold fX7_noteForUndo
  rcases Nat.lt_or_ge d 8 with h8 | h8
  · refine ⟨vp_updL past d (lN (pack w)), ?_, ?_⟩
    · rw [show (8 : Int32) = nI 8 from rfl, if_pos (by rw [nI_ltI (by omega) (by omega)]; exact h8), base d past h8]
      unfold pushD; rw [if_pos h8]
    · unfold pushD pushP; rw [if_pos h8, if_pos h8]
      intro i hi
      by_cases e : i = d
      · rw [updL_s e, if_pos e]
      · rw [updL_n e, if_neg e]; exact hp i (by omega)
  · have : d = 8 := by omega
    subst this
    have c1 : ((1 : Int32)).toNatClampNeg = 1 := by decide
    have c0 : ((0 : Int32)).toNatClampNeg = 0 := by decide
    have c7 : ((8 : Int32) - 1).toNatClampNeg = 7 := by decide
    have n7 : ((8 : Int32) - 1) = nI 7 := by decide
    refine ⟨vp_updL (va_cpy past past 1 0 7) 7 (lN (pack w)), ?_, ?_⟩
    · rw [if_neg (by decide)]
      simp only [jl_let_eq, c1, c0, c7]
      rw [n7, base 7 _ (by omega)]; rfl
    · unfold pushD pushP; rw [if_neg (by omega), if_neg (by omega)]
      intro i hi
      by_cases e : i = 7
      · rw [updL_s e, if_pos e]
      · rw [updL_n e, if_neg e, pk_cpy_in (by omega) (by omega)]
        have := hp (i + 1) (by omega)
        rw [show 1 + (i - 0) = i + 1 by omega]; exact this
theorem known_ok {slot : Nat → Int32} {w : JW} (hl : w.2.1.length ≤ 9) (hw : SW slot 0 w) {d F : Nat} (hd : d ≤ 8) (hF : 21 ≤ F) {ps : Nat → JW} (hps : ∀ i, i < d → SW slot (3 + i) (ps i) ∧ (ps i).2.1.length ≤ 9) : ∃ slot', fX10_known F (nI d) slot = some (nI (pushD d), slot') ∧ (∀ i, i < pushD d → SW slot' (3 + i) (pushP d ps w i)) ∧ ∀ j, (j < 60 ∨ 220 ≤ j) → slot' j = slot j := by
  have base : ∀ (e : Nat) (s0 : Nat → Int32), e < 8 → ∃ s1, fX10_known_41 F (nI e) s0 = some (nI (e + 1), s1) ∧ CP s0 s1 0 (3 + e) := by
    intro e s0 he
    obtain ⟨s1, h1, h2⟩ := copies_ok (slot := s0) (a := 0) (b := 3 + e) (F := F) (by omega) (by omega) (by omega) hF
    refine ⟨s1, ?_, h2⟩
    unfold fX10_known_41
    simp (disch := omega) only [fa_lit, ni_bit, b2n_0, b2n_1, ni_m1, ni_of1, ni_ofm1, nI_add, pk_mul, nI_clamp, ni_lt, ni_le, ni_eq, ni_l, fa_litL, ln_le, ln_lt, ln_eq, jl_let_eq, Option.bind_some, ↓reduceIte]
    rw [h1]; rfl
  unfold fX10_known
  rcases Nat.lt_or_ge d 8 with h8 | h8
  · obtain ⟨s1, h1, h2⟩ := base d slot h8
    have hne : ¬ nI d = 8 := by
      rw [show (8 : Int32) = nI 8 from rfl, nI_eq (by omega) (by omega)]; omega
    rw [if_neg hne]
    refine ⟨s1, ?_, ?_, fun j hj => h2.2 j (by omega)⟩
    · rw [h1]; unfold pushD; rw [if_pos h8]
    · unfold pushD pushP; rw [if_pos h8, if_pos h8]
      intro i hi
      by_cases e : i = d
      · subst e; rw [if_pos rfl]; exact hw.cp hl h2
      · rw [if_neg e]; obtain ⟨a, b⟩ := hps i (by omega); exact a.other b h2 (by omega)
  · have : d = 8 := by omega
    subst this
    rw [if_pos (by decide)]
    -- the copies downward
    have loop : ∃ s2 : Nat → Int32, (∀ E, fX10_known_41 F (nI 7) s2 = E → lX10_known_11 F F (3 : Int32) (nI 8) slot = E) ∧ (∀ i, i < 7 → SW s2 (3 + i) (ps (i + 1))) ∧ (∀ j, (j < 60 ∨ 220 ≤ j) → s2 j = slot j) := by
      have step : ∀ m t (s0 : Nat → Int32), t + m = 10 → 3 ≤ t → ∃ s2 : Nat → Int32, (∀ E n, m < n → fX10_known_41 F (nI 7) s2 = E → jl_loop3 (bX10_known_11 F) n (nI t) (nI 8) s0 = E) ∧ (∀ k, t ≤ k → k < 10 → ∀ j, j < 20 → s2 (20 * k + j) = s0 (20 * (k + 1) + j)) ∧ (∀ j, (j < 20 * t ∨ 200 ≤ j) → s2 j = s0 j) := by
        intro m
        induction m with
        | zero =>
          intro t s0 ht h3
          have : t = 10 := by omega
          subst this
          refine ⟨s0, fun E n hn hE => ?_, fun k h1 h2 => by omega, fun _ _ => rfl⟩
          obtain ⟨n', rfl⟩ : ∃ n', n = n' + 1 := ⟨n - 1, by omega⟩
          rw [jl_loop3_s]; unfold bX10_known_11
          rw [if_pos (by decide)]
          exact hE
        | succ m ih =>
          intro t s0 ht h3
          obtain ⟨s1, h1, h2⟩ := copies_ok (slot := s0) (a := t + 1) (b := t) (F := F) (by omega) (by omega) (by omega) hF
          obtain ⟨s2, g1, g2, g3⟩ := ih (t + 1) s1 (by omega) (by omega)
          refine ⟨s2, fun E n hn hE => ?_, fun k k1 k2 j hj => ?_, fun j hj => ?_⟩
          · obtain ⟨n', rfl⟩ : ∃ n', n = n' + 1 := ⟨n - 1, by omega⟩
            rw [jl_loop3_s]; unfold bX10_known_11
            have a0 : ¬ 10 ≤ t := by omega
            simp (disch := omega) only [fa_lit, ni_bit, b2n_0, b2n_1, ni_m1, ni_of1, ni_ofm1, nI_add, pk_mul, nI_clamp, ni_lt, ni_le, ni_eq, ni_l, fa_litL, ln_le, ln_lt, ln_eq, jl_let_eq, Option.bind_some, ↓reduceIte, a0]
            rw [h1, Option.bind_some]
            exact g1 E n' (by omega) hE
          · by_cases e : k = t
            · subst e
              rw [g3 _ (by omega)]; exact h2.1 j hj
            · rw [g2 k (by omega) k2 j hj]; exact h2.2 _ (by omega)
          · rw [g3 j (by omega)]; exact h2.2 j (by omega)
      obtain ⟨s2, g1, g2, g3⟩ := step 7 3 slot rfl (by omega)
      refine ⟨s2, fun E hE => g1 E F (by omega) hE, fun i hi => ?_, fun j hj => g3 j (by omega)⟩
      obtain ⟨⟨a1, a2, a3, a4⟩, b⟩ := hps (i + 1) (by omega)
      have e := fun j hj => g2 (3 + i) (by omega) (by omega) j hj
      refine ⟨fun s hs => by rw [e s (by omega)]; exact a1 s hs, fun q hq => ?_, by rw [e 18 (by omega)]; exact a3, by rw [e 19 (by omega)]; exact a4⟩
      have := e (9 + q) (by omega)
      rw [← Nat.add_assoc, ← Nat.add_assoc] at this
      rw [this]; exact a2 q hq
    obtain ⟨s2, l1, l2, l3⟩ := loop
    obtain ⟨s1, h1, h2⟩ := base 7 s2 (by omega)
    refine ⟨s1, ?_, ?_, fun j hj => by rw [h2.2 j (by omega)]; exact l3 j hj⟩
    · rw [l1 _ h1]; rfl
    · unfold pushD pushP; rw [if_neg (by omega), if_neg (by omega)]
      intro i hi
      by_cases e : i = 7
      · subst e; rw [if_pos rfl]
        have hw2 : SW s2 0 w := hw.kept hl (fun j j1 j2 => l3 j (by omega))
        exact hw2.cp hl h2
      · rw [if_neg e]
        exact (l2 i (by omega)).other (hps (i + 1) (by omega)).2 h2 (by omega)
