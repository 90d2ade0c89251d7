/-! the plan of a wall, and what the reference holds of it -/
abbrev JP : Type := Nat × Nat × Nat × (Nat → Nat → Bool) × (Nat → Nat → Bool) × (Nat → Nat)
def pR (g : JP) : Nat := g.1
def pC (g : JP) : Nat := g.2.1
def pP (g : JP) : Nat := g.2.2.1
def pT (g : JP) : Nat → Nat → Bool := g.2.2.2.1
def pH (g : JP) : Nat → Nat → Bool := g.2.2.2.2.1
def pO (g : JP) : Nat → Nat := g.2.2.2.2.2
def pn (g : JP) : Nat := pR g * pC g
def adj (C s t : Nat) : Bool := decide ((s / C = t / C ∧ (s % C + 1 = t % C ∨ t % C + 1 = s % C)) ∨ (s % C = t % C ∧ (s / C + 1 = t / C ∨ t / C + 1 = s / C)))
theorem adj_symm (C s t : Nat) : adj C s t = adj C t s := by
  unfold adj
  congr 1
  apply propext
  constructor <;> rintro (⟨h1, h2 | h2⟩ | ⟨h1, h2 | h2⟩) <;> simp [h1, h2]
theorem adj_irr (C s : Nat) : adj C s s = false := by
  unfold adj; simp
def GOK (g : JP) : Prop := 1 ≤ pR g ∧ 1 ≤ pC g ∧ pn g ≤ 9 ∧ 1 ≤ pP g ∧ pP g ≤ 3 ∧ (∀ a b, pT g a b = pT g b a) ∧ (∀ i p, pH g i p = true → 1 ≤ p ∧ p ≤ pP g) ∧ (∀ s, pO g s ≤ pP g ∨ pO g s = 9) ∧ (∀ s, pn g ≤ s → pO g s = 0)
/-- may stone s have paint p by its neighbours -/
def wf (g : JP) (c : Nat → Nat) (s p t : Nat) : Bool := !adj (pC g) s t || (decide (c t = 0) || (decide (c t = 9) || pT g p (c t)))
def wellA (g : JP) (c : Nat → Nat) (s p : Nat) : Bool := jall (wf g c s p) (pn g)
def mayA (g : JP) (c : Nat → Nat) (w s p : Nat) : Bool := decide (c s = 0) && (pH g w p && wellA g c s p)
def COK (c : Nat → Nat) : Prop := ∀ s, c s ≤ 3 ∨ c s = 9
def MR (g : JP) (stones : Int32) (told touches has old beside : Nat → Int32) : Prop :=
  stones = nI (pn g) ∧ (told 0 = nI (pR g) ∧ told 1 = nI (pC g) ∧ told 2 = nI (pP g)) ∧ (∀ a b, 1 ≤ a → a ≤ 3 → 1 ≤ b → b ≤ 3 → touches (4 * a + b) = nI (pT g a b).toNat) ∧ (∀ i, i < 2 → has i = nI (nb 3 (fun j => pH g i (j + 1)))) ∧ (∀ s, s < 9 → old s = nI (pO g s)) ∧ (∀ s, s < pn g → beside s = nI (nb 9 (fun t => decide (t < pn g) && adj (pC g) s t)))
def SC (slot : Nat → Int32) (k : Nat) (c : Nat → Nat) : Prop := ∀ s, s < 9 → slot (20 * k + s) = nI (c s)
theorem isWell_ok {g : JP} (hg : GOK g) {stones : Int32} {told touches has old beside slot : Nat → Int32} (hM : MR g stones told touches has old beside) {c : Nat → Nat} (hc : COK c) {k s p F : Nat} (hk : k < 12) (hS : SC slot k c) (hs : s < pn g) (hp1 : 1 ≤ p) (hp : p ≤ 3) (hF : 10 ≤ F) :
    fX10_isWell F stones touches beside slot (nI k) (nI s) (nI p) = some (nI (wellA g c s p).toNat) := by
  obtain ⟨hst, -, hT, -, -, hB⟩ := hM
  have hn := hg.2.2.1
  unfold fX10_isWell lX10_isWell_6
  refine jl_run2 (fun m x y => ∃ t, y = nI t ∧ x = nI (jall (wf g c s p) t).toNat ∧ t + m = pn g) ?_ F (pn g) _ _ ⟨0, rfl, rfl, by omega⟩ (by omega)
  rintro m x y ⟨t, rfl, rfl, hm⟩
  have hnb : nb 9 (fun t => decide (t < pn g) && adj (pC g) s t) < 2 ^ 31 := nb_lt31 (by omega) _
  rcases Nat.eq_zero_or_pos m with h0 | h0
  · left; intro k6
    have : t = pn g := by omega
    subst this
    unfold bX10_isWell_6
    rw [hst]
    unfold wellA
    simp (disch := omega) only [fa_lit, ni_bit, b2n_0, b2n_1, ni_m1, ni_of1, ni_ofm1, nI_add, pk_mul, nI_clamp, ni_lt, ni_le, ni_eq, ni_l, fa_litL, ln_le, ln_lt, ln_eq, jl_let_eq, Option.bind_some, ↓reduceIte, Nat.le_refl]
    cases jall (wf g c s p) (pn g) <;> simp
  · right
    refine ⟨m - 1, _, _, by omega, ⟨t + 1, rfl, rfl, by omega⟩, ?_⟩
    intro k6
    have ht : t < pn g := by omega
    have e1 := hS t (by omega)
    unfold bX10_isWell_6 fX10_isWell_78 fX10_isWell_74 fX10_isWell_79
    rw [hst]
    have c1 : ¬ pn g ≤ t := by omega
    have c2 : ¬ 240 ≤ 20 * k + t := by omega
    have c3 : ¬ 9 ≤ s := by omega
    have hct := hc t
    have hT' := fun h1 h3 => hT p (c t) hp1 hp h1 h3
    simp (disch := omega) only [fa_lit, ni_bit, b2n_0, b2n_1, ni_m1, ni_of1, ni_ofm1, nI_add, pk_mul, nI_clamp, ni_lt, ni_le, ni_eq, ni_l, fa_litL, ln_le, ln_lt, ln_eq, jl_let_eq, Option.bind_some, ↓reduceIte, c1, c2, c3, e1, Nat.not_lt_zero, or_self, false_or, hB s hs, nb_tb]
    simp only [jall, wf]
    have d1 : t < 9 := by omega
    simp only [d1, ht, decide_true, Bool.true_and]
    cases jall (wf g c s p) t
    · simp
    · cases adj (pC g) s t
      · simp
      · by_cases h00 : c t = 0
        · simp [h00]
        · by_cases h9 : c t = 9
          · simp [h9]
          · have h3 := hT' (by omega) (by omega)
            have c4 : ¬ 32 ≤ 4 * p + c t := by omega
            simp (disch := omega) only [h00, h9, fa_lit, ni_bit, b2n_0, b2n_1, ni_m1, ni_of1, ni_ofm1, nI_add, pk_mul, nI_clamp, ni_lt, ni_le, ni_eq, ni_l, fa_litL, ln_le, ln_lt, ln_eq, jl_let_eq, Option.bind_some, ↓reduceIte, h3, c4]
            cases pT g p (c t) <;> simp
