/-! the class's plan: what it holds of a plan g, what fits -/
def wornS (c : Nat → Nat) : Nat := nbp (fun s p => decide (c s = p))
def fitS (g : JP) (c : Nat → Nat) : Nat := nbp (fun s p => decide (s < pn g) && (decide (c s = 0) && (decide (p ≤ pP g) && wellA g c s p)))
def canS (g : JP) (w : Nat) : Nat := nbp (fun s p => decide (s < pn g) && (!decide (pO g s = 9) && pH g w p))
def rulB (g : JP) (s p t q : Nat) : Bool := decide (t = s) || (decide (t < pn g) && (adj (pC g) s t && !pT g p q))
def rulS (g : JP) (s p : Nat) : Nat := nbp (rulB g s p)
def XU (g : JP) (rows columns paints apart po0 po1 old shut : Int32) : Prop :=
  rows = nI (pR g) ∧ columns = nI (pC g) ∧ paints = nI (pP g) ∧ (∃ ap, ap < 2 ^ 9 ∧ apart = nI ap ∧ ∀ a b, 1 ≤ a → a ≤ 3 → 1 ≤ b → b ≤ 3 → ap.testBit (3 * (a - 1) + (b - 1)) = !pT g a b) ∧ (∃ q0, q0 < 8 ∧ po0 = nI q0 ∧ ∀ p, 1 ≤ p → p ≤ 3 → (q0.testBit (p - 1) && decide (p ≤ pP g)) = pH g 0 p) ∧ (∃ q1, q1 < 8 ∧ po1 = nI q1 ∧ ∀ p, 1 ≤ p → p ≤ 3 → (q1.testBit (p - 1) && decide (p ≤ pP g)) = pH g 1 p) ∧ old = nI (wornS (pO g)) ∧ shut = nI (nb 9 (fun s => decide (pO g s = 9)))
def XS (g : JP) (all fc fit pg0 pg1 : Int32) (ro : Nat → Int32) : Prop :=
  all = nI (2 ^ pn g - 1) ∧ fc = nI (fcN (pR g) (pC g)) ∧ fit = nI (nbp (fun s p => decide (s < pn g) && (!decide (pO g s = 9) && decide (p ≤ pP g)))) ∧ pg0 = nI (canS g 0) ∧ pg1 = nI (canS g 1) ∧ ∀ s, s < pn g → ∀ p, 1 ≤ p → p ≤ 3 → ro (9 * (p - 1) + s) = nI (rulS g s p)
/-- the colours of a wall of plan g -/
def CG (g : JP) (c : Nat → Nat) : Prop := COK c ∧ (∀ s, pn g ≤ s → c s = 0) ∧ ∀ s, c s = 9 ↔ pO g s = 9
theorem wornS_lt31 (c : Nat → Nat) : wornS c < 2 ^ 31 := nbp_lt31 _
theorem x_fitting {g : JP} (hg : GOK g) {all fc fit pg0 pg1 : Int32} {ro : Nat → Int32} (hX : XS g all fc fit pg0 pg1 ro) {c : Nat → Nat} (hc : CG g c) {F : Nat} (hF : 29 ≤ F) : fX3_fitting F fit ro (nI (wornS c)) = some (nI (fitS g c)) := by
  obtain ⟨-, -, hfit, -, -, hro⟩ := hX
  obtain ⟨hc1, hc2, hc3⟩ := hc
  have hn := hg.2.2.1
  let cl : Nat → Nat → Nat → Bool := fun i s p => !(decide (c (i % 9) = i / 9 + 1) && rulB g (i % 9) (i / 9 + 1) s p)
  have hcl : ∀ i s p, cl i s p = !(decide (c (i % 9) = i / 9 + 1) && rulB g (i % 9) (i / 9 + 1) s p) := fun _ _ _ => rfl
  unfold fX3_fitting lX3_fitting_7
  refine jl_run2 (fun d x y => ∃ t, y = nI t ∧ t + d = 27 ∧ x = nI (nbp (fun s p => (decide (s < pn g) && (!decide (pO g s = 9) && decide (p ≤ pP g))) && jall (fun i => cl i s p) t))) ?_ F 27 _ _ ⟨0, rfl, rfl, ?_⟩ (by omega)
  · rintro d x y ⟨t, rfl, hd, rfl⟩
    rcases Nat.eq_zero_or_pos d with h0 | h0
    · left; intro k
      have : t = 27 := by omega
      subst this
      unfold bX3_fitting_7
      simp (disch := omega) only [fa_lit, ni_bit, b2n_0, b2n_1, ni_m1, ni_of1, ni_ofm1, nI_add, pk_mul, nI_clamp, ni_lt, ni_le, ni_eq, ni_l, fa_litL, ln_le, ln_lt, ln_eq, jl_let_eq, Option.bind_some, ↓reduceIte, Nat.le_refl]
      refine congrArg (fun z => some (nI z)) (nbp_cong (fun s p hs h1 h3 => ?_))
      apply Bool.eq_iff_iff.mpr
      simp only [Bool.and_eq_true, decide_eq_true_eq, Bool.not_eq_true', decide_eq_false_iff_not, jall_iff, hcl, wellA, wf, rulB, Bool.or_eq_true, Bool.and_eq_false_iff, Bool.or_eq_false_iff, Bool.not_eq_false']
      constructor
      · rintro ⟨⟨hsn, h9, hp⟩, hall⟩
        have hz : c s = 0 := by
          rcases hc1 s with h | h
          · rcases Nat.eq_zero_or_pos (c s) with z | z
            · exact z
            · exfalso
              have := hall (9 * (c s - 1) + s) (by omega)
              rw [show (9 * (c s - 1) + s) % 9 = s by omega, show (9 * (c s - 1) + s) / 9 + 1 = c s by omega] at this
              rcases this with h | ⟨h, -⟩ <;> exact h rfl
          · exact absurd ((hc3 s).mp h) h9
        refine ⟨hsn, hz, hp, fun t ht => ?_⟩
        rcases hc1 t with h | h
        · rcases Nat.eq_zero_or_pos (c t) with z | z
          · exact Or.inr (Or.inl z)
          · have := hall (9 * (c t - 1) + t) (by omega)
            rw [show (9 * (c t - 1) + t) % 9 = t by omega, show (9 * (c t - 1) + t) / 9 + 1 = c t by omega] at this
            rcases this with h | ⟨-, h⟩
            · exact absurd rfl h
            · rcases h with h | h | h
              · exact absurd hsn h
              · rw [adj_symm] at h; exact Or.inl h
              · rw [hg.2.2.2.2.2.1] at h; exact Or.inr (Or.inr (Or.inr h))
        · exact Or.inr (Or.inr (Or.inl h))
      · rintro ⟨hsn, hz, hp, hall⟩
        refine ⟨⟨hsn, fun h9 => by rw [(hc3 s).mpr h9] at hz; omega, hp⟩, fun i hi => ?_⟩
        by_cases hci : c (i % 9) = i / 9 + 1
        · right
          have hin : i % 9 < pn g := by
            rcases Nat.lt_or_ge (i % 9) (pn g) with h | h
            · exact h
            · rw [hc2 _ h] at hci; omega
          refine ⟨fun e => by rw [← e, hz] at hci; omega, ?_⟩
          have := hall (i % 9) hin
          rw [hci] at this
          rcases this with h | h | h | h
          · rw [adj_symm] at h; exact Or.inr (Or.inl h)
          · omega
          · omega
          · rw [hg.2.2.2.2.2.1] at h; exact Or.inr (Or.inr h)
        · exact Or.inl hci
    · right
      refine ⟨d - 1, _, _, by omega, ⟨t + 1, rfl, by omega, rfl⟩, ?_⟩
      intro k
      unfold bX3_fitting_7
      have a : ¬ 27 ≤ t := by omega
      have hb : (wornS c).testBit t = decide (c (t % 9) = t / 9 + 1) := by
        unfold wornS nbp; rw [nb_tb]
        have : t < 27 := by omega
        simp [this]
      have hw := wornS_lt31 c
      simp (disch := omega) only [fa_lit, ni_bit, b2n_0, b2n_1, ni_m1, ni_of1, ni_ofm1, nI_add, pk_mul, nI_clamp, ni_lt, ni_le, ni_eq, ni_l, fa_litL, ln_le, ln_lt, ln_eq, jl_let_eq, Option.bind_some, ↓reduceIte, a, hb, Nat.not_lt_zero, or_self]
      by_cases hct : c (t % 9) = t / 9 + 1
      · have hin : t % 9 < pn g := by
          rcases Nat.lt_or_ge (t % 9) (pn g) with h | h
          · exact h
          · rw [hc2 _ h] at hct; omega
        have hr := hro (t % 9) hin (t / 9 + 1) (by omega) (by omega)
        rw [show 9 * (t / 9 + 1 - 1) + t % 9 = t by omega] at hr
        simp only [hct, decide_true, Bool.true_eq_false, if_false, hr]
        rw [ni_adn]
        unfold rulS
        rw [nbp_adn]
        refine congrArg (fun z => k (nI z) (nI (t + 1))) (nbp_cong (fun s p _ _ _ => ?_))
        simp only [jall, hcl, hct, decide_true, Bool.true_and, Bool.and_assoc]
      · simp only [hct, decide_false, if_true]
        refine congrArg (fun z => k (nI z) (nI (t + 1))) (nbp_cong (fun s p _ _ _ => ?_))
        simp only [jall, hcl, hct, decide_false, Bool.false_and, Bool.not_false, Bool.and_true]
  · rw [hfit]
    refine congrArg nI (nbp_cong (fun s p _ _ _ => ?_))
    simp [jall]
theorem fitS_lt31 (g : JP) (c : Nat → Nat) : fitS g c < 2 ^ 31 := nbp_lt31 _
/-- after a painting that may be, what fits is what fits of the wall so painted -/
theorem x_fitAfter {g : JP} (hg : GOK g) {all fc fit pg0 pg1 : Int32} {ro : Nat → Int32} (hX : XS g all fc fit pg0 pg1 ro) {c : Nat → Nat} {s p : Nat} (hs : s < pn g) (h1 : 1 ≤ p) (h3 : p ≤ 3) (hz : c s = 0) : fX3_fittingAfter ro (nI (fitS g c)) (nI (2 ^ (9 * (p - 1) + s))) = some (nI (fitS g (upc c s p))) := by
  have hn := hg.2.2.1
  rw [x_fittingAfter (by omega) (hX.2.2.2.2.2 s hs p h1 h3)]
  unfold fitS rulS
  rw [nbp_adn]
  refine congrArg (fun z => some (nI z)) (nbp_cong (fun t q ht hq1 hq3 => ?_))
  apply Bool.eq_iff_iff.mpr
  simp only [Bool.and_eq_true, decide_eq_true_eq, Bool.not_eq_true', wellA, jall_iff, wf, rulB, Bool.or_eq_false_iff, decide_eq_false_iff_not, Bool.and_eq_false_iff, Bool.not_eq_false', Bool.or_eq_true]
  unfold upc
  constructor
  · rintro ⟨⟨htn, hct, hq, hall⟩, hts, hr⟩
    refine ⟨htn, by rw [if_neg hts]; exact hct, hq, fun u hu => ?_⟩
    by_cases hus : u = s
    · subst hus
      rw [if_pos rfl]
      rcases hr with h | h | h
      · exact absurd htn h
      · rw [adj_symm] at h; exact Or.inl h
      · rw [hg.2.2.2.2.2.1] at h; exact Or.inr (Or.inr (Or.inr h))
    · rw [if_neg hus]; exact hall u hu
  · rintro ⟨htn, hct, hq, hall⟩
    have hts : t ≠ s := by
      intro e; rw [if_pos e] at hct; omega
    rw [if_neg hts] at hct
    refine ⟨⟨htn, hct, hq, fun u hu => ?_⟩, hts, ?_⟩
    · by_cases hus : u = s
      · subst hus; exact Or.inr (Or.inl hz)
      · have := hall u hu; rw [if_neg hus] at this; exact this
    · have := hall s hs
      rw [if_pos rfl] at this
      rcases this with h | h | h | h
      · rw [adj_symm] at h; exact Or.inr (Or.inl h)
      · omega
      · omega
      · rw [hg.2.2.2.2.2.1] at h; exact Or.inr (Or.inr h)
def bareS (g : JP) (c : Nat → Nat) : Nat := nb 9 (fun s => decide (s < pn g) && decide (c s = 0))
theorem tb_all {n i : Nat} : (2 ^ n - 1).testBit i = decide (i < n) := Nat.testBit_two_pow_sub_one n i
theorem x_bare {g : JP} (hg : GOK g) {c : Nat → Nat} (hc : CG g c) : fX3_bare (nI (nb 9 (fun s => decide (pO g s = 9)))) (nI (2 ^ pn g - 1)) (nI (wornS c)) = some (nI (bareS g c)) := by
  have hn := hg.2.2.1
  obtain ⟨hc1, hc2, hc3⟩ := hc
  unfold fX3_bare wornS
  rw [x_painted, Option.bind_some, ni_m1, ni_adn, ni_adn]
  have hall : 2 ^ pn g - 1 < 2 ^ 9 := by
    have := Nat.pow_le_pow_right (n := 2) (by omega) hn
    omega
  have h1 : adn (2 ^ pn g - 1) (nb 9 fun s => decide (pO g s = 9)) < 2 ^ 9 := Nat.lt_of_le_of_lt Nat.and_le_left hall
  have h2 : adn (adn (2 ^ pn g - 1) (nb 9 fun s => decide (pO g s = 9))) (nb 9 fun s => decide (c s = 1) || decide (c s = 2) || decide (c s = 3)) < 2 ^ 9 := Nat.lt_of_le_of_lt Nat.and_le_left h1
  refine congrArg (fun z => some (nI z)) (nb_ext h2 (fun i hi => ?_))
  rw [adn_tb (by omega), adn_tb (by omega), tb_all, nb_tb, nb_tb]
  apply Bool.eq_iff_iff.mpr
  simp only [hi, decide_true, Bool.true_and, Bool.and_eq_true, decide_eq_true_eq, Bool.not_eq_true', decide_eq_false_iff_not, Bool.or_eq_false_iff]
  have h9 := hc3 i
  rcases hc1 i with h | h
  · constructor
    · rintro ⟨⟨a, b⟩, ⟨d1, d2⟩, d3⟩; exact ⟨a, by omega⟩
    · rintro ⟨a, b⟩; exact ⟨⟨a, fun e => by have := h9.mpr e; omega⟩, ⟨by omega, by omega⟩, by omega⟩
  · constructor
    · rintro ⟨⟨a, b⟩, _⟩; exact absurd (h9.mp h) b
    · rintro ⟨a, b⟩; omega
