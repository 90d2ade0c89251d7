/-! the reference's small methods -/
theorem lg_cmp_lt0 {x y : Int64} : (lg_cmp x y < nI 0) = (x < y) := by
  unfold lg_cmp
  apply propext
  by_cases h : y < x
  · have : ¬ x < y := by rw [fa_lt64] at h ⊢; omega
    rw [if_pos h]; simp only [this, iff_false]; decide
  · rw [if_neg h]
    by_cases h2 : x = y
    · have : ¬ x < y := by subst h2; exact h
      rw [if_pos h2]; simp only [this, iff_false]; decide
    · have : x < y := by rw [fa_lt64] at h ⊢; rw [fa_eq64] at h2; omega
      rw [if_neg h2]; simp only [this, iff_true]; decide
theorem lg_cmp_gt0 {x y : Int64} : (nI 0 < lg_cmp x y) = (y < x) := by
  unfold lg_cmp
  apply propext
  by_cases h : y < x
  · rw [if_pos h]; simp only [h, iff_true]; decide
  · rw [if_neg h]
    by_cases h2 : x = y
    · rw [if_pos h2]; simp only [h, iff_false]; decide
    · rw [if_neg h2]; simp only [h, iff_false]; decide
theorem in_ok (v lo hi : Int64) : fX10_in v lo hi = some (nI (decide (lo.toInt ≤ v.toInt) && decide (v.toInt ≤ hi.toInt)).toNat) := by
  unfold fX10_in
  simp only [fa_lit, lg_cmp_lt0, lg_cmp_gt0, fa_lt64]
  by_cases h1 : v.toInt < lo.toInt
  · have : ¬ lo.toInt ≤ v.toInt := by omega
    simp [h1, this]
  · have h3 : lo.toInt ≤ v.toInt := by omega
    by_cases h2 : hi.toInt < v.toInt
    · have : ¬ v.toInt ≤ hi.toInt := by omega
      simp [h1, h2, this]
    · have : v.toInt ≤ hi.toInt := by omega
      simp [h1, h2, h3, this]
theorem i2l_toInt (x : Int32) : x.toInt64.toInt = x.toInt := by simp
theorem L_toInt {n : Nat} (h : n < 2 ^ 63) : (lN n).toInt = n := pk_lT h
/-- a number as the calls give it is one below n -/
def isN (x : Int32) (n : Nat) : Bool := decide (0 ≤ x.toInt) && decide (x.toInt < n)
theorem isN_iff {x : Int32} {n : Nat} : isN x n = true ↔ ∃ k, k < n ∧ k < 2 ^ 31 ∧ x = nI k := by
  unfold isN
  simp only [Bool.and_eq_true, decide_eq_true_eq]
  have hr := fb_rng x
  constructor
  · rintro ⟨h1, h2⟩
    refine ⟨x.toInt.toNat, by omega, by omega, ?_⟩
    rw [fa_eq, nI_toInt (by omega)]; omega
  · rintro ⟨k, hk, hk2, rfl⟩
    rw [nI_toInt hk2]; omega
theorem isN_nI {k n : Nat} (hk : k < 2 ^ 31) : isN (nI k) n = decide (k < n) := by
  unfold isN; rw [nI_toInt hk]
  by_cases h : k < n
  · simp [h]
  · simp [h]
theorem grd01 {α : Type} (b : Bool) (X : Option α) : (if nI b.toNat = 0 ∨ nI b.toNat = 1 then X else none) = X := by
  cases b <;> exact if_pos (by decide)
theorem isStone_ok {n : Nat} (h1 : 1 ≤ n) (h9 : n ≤ 9) (s : Int32) : fX10_isStone (nI n) s = some (nI (isN s n).toNat) := by
  unfold fX10_isStone
  obtain ⟨m, rfl⟩ : ∃ m, n = m + 1 := ⟨n - 1, by omega⟩
  have e : nI (m + 1) - (1 : Int32) = nI m := nI_pred m
  rw [e, in_ok, nI_l (by omega)]
  have hr := fb_rng s
  have : (decide ((0 : Int64).toInt ≤ s.toInt64.toInt) && decide (s.toInt64.toInt ≤ (lN m).toInt)) = isN s (m + 1) := by
    unfold isN
    rw [i2l_toInt, L_toInt (by omega), show (0 : Int64).toInt = 0 from by decide]
    congr 1
    apply decide_eq_decide.mpr; omega
  rw [this, Option.bind_some]
  exact grd01 _ _
/-- a number is a paint of P -/
def isP (x : Int32) (P : Nat) : Bool := decide (1 ≤ x.toInt) && decide (x.toInt ≤ P)
theorem isP_iff {x : Int32} {P : Nat} (hP : P ≤ 3) : isP x P = true ↔ ∃ k, 1 ≤ k ∧ k ≤ P ∧ x = nI k := by
  unfold isP
  simp only [Bool.and_eq_true, decide_eq_true_eq]
  have hr := fb_rng x
  constructor
  · rintro ⟨h1, h2⟩
    refine ⟨x.toInt.toNat, by omega, by omega, ?_⟩
    rw [fa_eq, nI_toInt (by omega)]; omega
  · rintro ⟨k, hk, hk2, rfl⟩
    rw [nI_toInt (by omega)]; omega
theorem c2 : ((2 : Int32)).toNatClampNeg = 2 := by decide
theorem isPaint_ok {told : Nat → Int32} {P : Nat} (hP : P ≤ 3) (h2 : told 2 = nI P) (p : Int32) : fX10_isPaint told p = some (nI (isP p P).toNat) := by
  unfold fX10_isPaint
  rw [c2, h2, in_ok, nI_l (by omega)]
  have : (decide ((1 : Int64).toInt ≤ p.toInt64.toInt) && decide (p.toInt64.toInt ≤ (lN P).toInt)) = isP p P := by
    unfold isP
    rw [i2l_toInt, L_toInt (by omega), show (1 : Int64).toInt = 1 from by decide]
  rw [this, Option.bind_some]
  exact grd01 _ _
/-- a stand of the wall: what the stones have, the order of those painted, whose turn -/
abbrev JW : Type := (Nat → Nat) × List Nat × Nat
def SW (slot : Nat → Int32) (k : Nat) (w : JW) : Prop := SC slot k w.1 ∧ (∀ i, i < w.2.1.length → slot (20 * k + 9 + i) = nI (w.2.1.getD i 0)) ∧ slot (20 * k + 18) = nI w.2.1.length ∧ slot (20 * k + 19) = nI w.2.2
def CP (slot slot' : Nat → Int32) (a b : Nat) : Prop := (∀ j, j < 20 → slot' (20 * b + j) = slot (20 * a + j)) ∧ ∀ i, (i < 20 * b ∨ 20 * b + 20 ≤ i) → slot' i = slot i
theorem SW.cp {slot slot' : Nat → Int32} {a b : Nat} {w : JW} (h : SW slot a w) (hl : w.2.1.length ≤ 9) (hc : CP slot slot' a b) : SW slot' b w := by
  obtain ⟨h1, h2, h3, h4⟩ := h
  refine ⟨fun s hs => by rw [hc.1 s (by omega)]; exact h1 s hs, fun i hi => ?_, by rw [hc.1 18 (by omega)]; exact h3, by rw [hc.1 19 (by omega)]; exact h4⟩
  have := hc.1 (9 + i) (by omega)
  rw [← Nat.add_assoc, ← Nat.add_assoc] at this
  rw [this]; exact h2 i hi
theorem SW.kept {slot slot' : Nat → Int32} {k : Nat} {w : JW} (h : SW slot k w) (hl : w.2.1.length ≤ 9) (hc : ∀ i, 20 * k ≤ i → i < 20 * k + 20 → slot' i = slot i) : SW slot' k w := by
  obtain ⟨h1, h2, h3, h4⟩ := h
  refine ⟨fun s hs => by rw [hc _ (by omega) (by omega)]; exact h1 s hs, fun i hi => by rw [hc _ (by omega) (by omega)]; exact h2 i hi, by rw [hc _ (by omega) (by omega)]; exact h3, by rw [hc _ (by omega) (by omega)]; exact h4⟩
theorem SW.other {slot slot' : Nat → Int32} {a b k : Nat} {w : JW} (h : SW slot k w) (hl : w.2.1.length ≤ 9) (hc : CP slot slot' a b) (hk : k ≠ b) : SW slot' k w :=
  h.kept hl (fun i h1 h2 => hc.2 i (by omega))
theorem copies_ok {slot : Nat → Int32} {a b F : Nat} (ha : a < 12) (hb : b < 12) (hab : a ≠ b) (hF : 21 ≤ F) : ∃ slot', fX10_copies F slot (nI a) (nI b) = some slot' ∧ CP slot slot' a b := by
  refine ⟨fun i => if 20 * b ≤ i ∧ i < 20 * b + 20 then slot (20 * a + (i - 20 * b)) else slot i, ?_, ?_⟩
  · unfold fX10_copies lX10_copies_2
    refine jl_run2 (fun m x s => ∃ t, x = nI t ∧ t + m = 20 ∧ s = fun i => if 20 * b ≤ i ∧ i < 20 * b + t then slot (20 * a + (i - 20 * b)) else slot i) ?_ F 20 _ _ ⟨0, rfl, rfl, ?_⟩ (by omega)
    · rintro m x s ⟨t, rfl, hm, rfl⟩
      rcases Nat.eq_zero_or_pos m with h0 | h0
      · left; intro k
        have : t = 20 := by omega
        subst this
        unfold bX10_copies_2
        simp (disch := omega) only [fa_lit, ni_bit, b2n_0, b2n_1, ni_m1, ni_of1, ni_ofm1, nI_add, pk_mul, nI_clamp, ni_lt, ni_le, ni_eq, ni_l, fa_litL, ln_le, ln_lt, ln_eq, jl_let_eq, Option.bind_some, ↓reduceIte, Nat.le_refl]
      · right
        refine ⟨m - 1, _, _, by omega, ⟨t + 1, rfl, by omega, rfl⟩, ?_⟩
        intro k
        unfold bX10_copies_2
        have c0 : ¬ 20 ≤ t := by omega
        have c1 : ¬ 240 ≤ 20 * a + t := by omega
        have c3 : ¬ 240 ≤ 20 * b + t := by omega
        simp (disch := omega) only [fa_lit, ni_bit, b2n_0, b2n_1, ni_m1, ni_of1, ni_ofm1, nI_add, pk_mul, nI_clamp, ni_lt, ni_le, ni_eq, ni_l, fa_litL, ln_le, ln_lt, ln_eq, jl_let_eq, Option.bind_some, ↓reduceIte, c0, c1, c3, Nat.not_lt_zero, or_self]
        congr 1
        funext i
        unfold upd
        dsimp only
        by_cases hi : i = 20 * b + t
        · subst hi
          rw [if_pos rfl, if_neg (by omega), if_pos (by omega)]
          congr 1; omega
        · rw [if_neg hi]
          by_cases h2 : 20 * b ≤ i ∧ i < 20 * b + t
          · rw [if_pos h2, if_pos (by omega)]
          · rw [if_neg h2, if_neg (by omega)]
    · funext i; rw [if_neg (by omega)]
  · refine ⟨fun j hj => ?_, fun i hi => ?_⟩
    · show (if _ then _ else _) = _
      rw [if_pos (by omega)]; congr 1; omega
    · show (if _ then _ else _) = _
      rw [if_neg (by omega)]
def upc (c : Nat → Nat) (s p : Nat) : Nat → Nat := fun t => if t = s then p else c t
def paintW (w : JW) (s p : Nat) : JW := (upc w.1 s p, w.2.1 ++ [s], 1 - w.2.2)
theorem c18 : ((18 : Int32)).toNatClampNeg = 18 := by decide
theorem c19 : ((19 : Int32)).toNatClampNeg = 19 := by decide
theorem paints_ok {slot : Nat → Int32} {k s p : Nat} {w : JW} (hk : k < 12) (hS : SW slot k w) (hl : w.2.1.length < 9) (ht : w.2.2 ≤ 1) (hs : s < 9) : ∃ slot', fX10_paints slot (nI k) (nI s) (nI p) = some slot' ∧ SW slot' k (paintW w s p) ∧ ∀ i, (i < 20 * k ∨ 20 * k + 20 ≤ i) → slot' i = slot i := by
  obtain ⟨h1, h2, h3, h4⟩ := hS
  unfold fX10_paints
  have a0 : ¬ 240 ≤ 20 * k + s := by omega
  have a1 : ¬ 240 ≤ 20 * k + 18 := by omega
  have a2 : ¬ 240 ≤ 20 * k + 19 := by omega
  have a3 : ¬ 240 ≤ 20 * k + 9 + w.2.1.length := by omega
  have u1 : upd slot (20 * k + s) (nI p) (20 * k + 18) = nI w.2.1.length := by rw [upd_n (by omega)]; exact h3
  have u2 : upd (upd slot (20 * k + s) (nI p)) (20 * k + 9 + w.2.1.length) (nI s) (20 * k + 18) = nI w.2.1.length := by rw [upd_n (by omega)]; exact u1
  have u3 : upd (upd (upd slot (20 * k + s) (nI p)) (20 * k + 9 + w.2.1.length) (nI s)) (20 * k + 18) (nI (w.2.1.length + 1)) (20 * k + 19) = nI w.2.2 := by
    rw [upd_n (by omega), upd_n (by omega), upd_n (by omega)]; exact h4
  simp (disch := omega) only [fa_lit, ni_bit, b2n_0, b2n_1, ni_m1, ni_of1, ni_ofm1, nI_add, pk_mul, nI_clamp, ni_lt, ni_le, ni_eq, ni_l, fa_litL, ln_le, ln_lt, ln_eq, jl_let_eq, Option.bind_some, ↓reduceIte, a0, a1, a2, Nat.not_lt_zero, or_self, u1, a3, u2, u3, pk_sub]
  refine ⟨_, rfl, ⟨fun t ht9 => ?_, fun i hi => ?_, ?_, ?_⟩, fun i hi => ?_⟩
  · rw [upd_n (by omega), upd_n (by omega), upd_n (by omega)]
    show upd slot (20 * k + s) (nI p) (20 * k + t) = nI (upc w.1 s p t)
    unfold upc
    by_cases h : t = s
    · subst h; rw [upd_s rfl, if_pos rfl]
    · rw [upd_n (by omega), if_neg h]; exact h1 t ht9
  · have hi : i < w.2.1.length + 1 := by simpa [paintW] using hi
    rw [upd_n (by omega), upd_n (by omega)]
    by_cases h : i = w.2.1.length
    · subst h; rw [upd_s rfl]; simp [paintW]
    · rw [upd_n (by omega), upd_n (by omega), h2 i (by omega)]
      congr 1
      show w.2.1.getD i 0 = (w.2.1 ++ [s]).getD i 0
      simp only [List.getD_eq_getElem?_getD]
      rw [List.getElem?_append_left (by omega)]
  · rw [upd_n (by omega), upd_s rfl]; simp [paintW]
  · rw [upd_s rfl]; rfl
  · rw [upd_n (by omega), upd_n (by omega), upd_n (by omega), upd_n (by omega)]
theorem has_bit {g : JP} {stones : Int32} {told touches has old beside : Nat → Int32} (hM : MR g stones told touches has old beside) {i p : Nat} (hi : i ≤ 1) (h1 : 1 ≤ p) (h3 : p ≤ 3) : (has i >>> ((nI p - nI 1) &&& nI 31)) &&& nI 1 = nI (pH g i p).toNat := by
  obtain ⟨q, rfl⟩ : ∃ q, p = q + 1 := ⟨p - 1, by omega⟩
  rw [hM.2.2.2.1 i (by omega), pk_sub (by omega), show q + 1 - 1 = q by omega, ni_bit (nb_lt31 (by omega) _) (by omega), nb_tb]
  have : q < 3 := by omega
  simp [this]
theorem isMay_ok {g : JP} (hg : GOK g) {stones : Int32} {told touches has old beside slot : Nat → Int32} (hM : MR g stones told touches has old beside) {w : JW} (hc : COK w.1) {k s p F : Nat} (hk : k < 12) (hS : SW slot k w) (hs : s < pn g) (ht : w.2.2 ≤ 1) (hp1 : 1 ≤ p) (hp : p ≤ 3) (hF : 10 ≤ F) :
    fX10_isMay F stones touches has beside slot (nI k) (nI s) (nI p) = some (nI (mayA g w.1 w.2.2 s p).toNat) := by
  have hn := hg.2.2.1
  have hw := isWell_ok hg hM hc hk hS.1 hs hp1 hp hF
  have hh := has_bit hM ht hp1 hp
  unfold fX10_isMay mayA
  have a0 : ¬ 240 ≤ 20 * k + s := by omega
  have a2 : ¬ 240 ≤ 20 * k + 19 := by omega
  have e1 := hS.1 s (by omega)
  have e2 := hS.2.2.2
  have hcs := hc s
  have a3 : ¬ 4 ≤ w.2.2 := by omega
  rw [show (31 : Int32) = nI 31 from rfl, show (1 : Int32) = nI 1 from rfl] at *
  simp (disch := omega) only [fa_lit, ni_bit, b2n_0, b2n_1, ni_m1, ni_of1, ni_ofm1, nI_add, pk_mul, nI_clamp, ni_lt, ni_le, ni_eq, ni_l, fa_litL, ln_le, ln_lt, ln_eq, jl_let_eq, Option.bind_some, ↓reduceIte, a0, a2, a3, e1, e2, Nat.not_lt_zero, or_self, hh, hw]
  by_cases h0 : w.1 s = 0
  · cases pH g w.2.2 p
    · simp [h0]
    · cases wellA g w.1 s p <;> simp [h0]
  · simp [h0]
