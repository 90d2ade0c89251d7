/-! the class's plan: small methods on sets -/
def nbp (h : Nat → Nat → Bool) : Nat := nb 27 (fun i => h (i % 9) (i / 9 + 1))
theorem nbp_lt (h : Nat → Nat → Bool) : nbp h < 2 ^ 27 := nb_lt 27 _
theorem nbp_lt31 (h : Nat → Nat → Bool) : nbp h < 2 ^ 31 := nb_lt31 (by omega) _
theorem nbp_tb {h : Nat → Nat → Bool} {s p : Nat} (hs : s < 9) (h1 : 1 ≤ p) (h3 : p ≤ 3) : (nbp h).testBit (9 * (p - 1) + s) = h s p := by
  unfold nbp
  rw [nb_tb]
  have e1 : (9 * (p - 1) + s) % 9 = s := by omega
  have e2 : (9 * (p - 1) + s) / 9 + 1 = p := by omega
  have e3 : 9 * (p - 1) + s < 27 := by omega
  rw [e1, e2]; simp [e3]
theorem nbp_cong {h k : Nat → Nat → Bool} (e : ∀ s p, s < 9 → 1 ≤ p → p ≤ 3 → h s p = k s p) : nbp h = nbp k := nb_cong (fun i hi => e _ _ (by omega) (by omega) (by omega))
theorem nbp_ext {m : Nat} {h : Nat → Nat → Bool} (hm : m < 2 ^ 27) (e : ∀ s p, s < 9 → 1 ≤ p → p ≤ 3 → m.testBit (9 * (p - 1) + s) = h s p) : m = nbp h := by
  refine nb_ext hm (fun i hi => ?_)
  have := e (i % 9) (i / 9 + 1) (by omega) (by omega) (by omega)
  rw [← this]; congr 1; omega
theorem nbp_and (h k : Nat → Nat → Bool) : nbp h &&& nbp k = nbp (fun s p => h s p && k s p) := nb_and 27 _ _
theorem nbp_or (h k : Nat → Nat → Bool) : nbp h ||| nbp k = nbp (fun s p => h s p || k s p) := nb_or 27 _ _
theorem nbp_adn (h k : Nat → Nat → Bool) : adn (nbp h) (nbp k) = nbp (fun s p => h s p && !k s p) := by
  unfold nbp
  rw [nb_adn (by omega)]
  exact nb_cong (fun i hi => by simp [hi])
theorem nbp_one {s p : Nat} (hs : s < 9) (h1 : 1 ≤ p) (h3 : p ≤ 3) : nbp (fun t q => decide (t = s ∧ q = p)) = 2 ^ (9 * (p - 1) + s) := by
  rw [← nb_one (n := 27) (k := 9 * (p - 1) + s) (by omega)]
  refine nb_cong (fun i hi => ?_)
  apply decide_eq_decide.mpr
  constructor <;> intro h <;> omega
theorem nbp_zero {h : Nat → Nat → Bool} : nbp h = 0 ↔ ∀ s p, s < 9 → 1 ≤ p → p ≤ 3 → h s p = false := by
  unfold nbp
  rw [nb_zero]
  constructor
  · intro e s p hs h1 h3
    have := e (9 * (p - 1) + s) (by omega)
    rw [show (9 * (p - 1) + s) % 9 = s by omega, show (9 * (p - 1) + s) / 9 + 1 = p by omega] at this
    exact this
  · intro e i hi; exact e _ _ (by omega) (by omega) (by omega)
theorem x_stonesWith {h : Nat → Nat → Bool} {p : Nat} (h1 : 1 ≤ p) (h3 : p ≤ 3) : fX3_stonesWith (nI (nbp h)) (nI p) = some (nI (nb 9 (fun s => h s p))) := by
  unfold fX3_stonesWith
  simp (disch := omega) only [fa_lit, pk_sub, pk_mul]
  rw [ni_shr (nbp_lt31 h) (by omega), show (511 : Nat) = 2 ^ 9 - 1 from rfl, fa_mask]
  congr 2
  refine nb_ext (Nat.mod_lt _ (by decide)) (fun i hi => ?_)
  rw [Nat.testBit_mod_two_pow, tb_shr]
  rw [show i + 9 * (p - 1) = 9 * (p - 1) + i by omega, nbp_tb hi h1 h3]
  simp [hi]
theorem x_painted {h : Nat → Nat → Bool} : fX3_painted (nI (nbp h)) = some (nI (nb 9 (fun s => h s 1 || h s 2 || h s 3))) := by
  unfold fX3_painted
  rw [show (1 : Int32) = nI 1 from rfl, show (2 : Int32) = nI 2 from rfl, show (3 : Int32) = nI 3 from rfl]
  rw [x_stonesWith (by omega) (by omega), x_stonesWith (by omega) (by omega), x_stonesWith (by omega) (by omega)]
  simp only [Option.bind_some, ni_or, nb_or]
theorem x_painting {s p : Nat} (hs : s < 9) (h1 : 1 ≤ p) (h3 : p ≤ 3) : fX3_painting (nI s) (nI p) = some (nI (2 ^ (9 * (p - 1) + s))) := by
  unfold fX3_painting
  simp (disch := omega) only [fa_lit, pk_sub, pk_mul, nI_add]
  rw [ni_shl _ (by omega), Nat.one_mul]
theorem ct_pow : ∀ i, i < 31 → fb_ct (2 ^ i - 1).testBit 32 = i := by decide +kernel
theorem pow_lt {i : Nat} (hi : i < 27) : 2 ^ i < 2 ^ 27 := Nat.pow_lt_pow_right (by omega) hi
theorem x_fittingAfter {ro : Nat → Int32} {m i r : Nat} (hi : i < 27) (hr : ro i = nI r) : fX3_fittingAfter ro (nI m) (nI (2 ^ i)) = some (nI (adn m r)) := by
  unfold fX3_fittingAfter
  have h1 := pow_lt hi
  have h0 : 1 ≤ 2 ^ i := Nat.one_le_two_pow
  rw [show (1 : Int32) = nI 1 from rfl, pk_sub h0, bitCount_ok (by omega), Option.bind_some, ct_pow i (by omega)]
  have a : ¬ 27 ≤ i := by omega
  simp (disch := omega) only [fa_lit, ni_le, ni_lt, nI_clamp, a, Nat.not_lt_zero, or_self, if_false, hr, ni_adn]
theorem x_inPaints {m q F : Nat} (hm : m < 2 ^ 9) (hq : q < 8) (hF : 5 ≤ F) : fX3_inPaints F (nI m) (nI q) = some (nI (nbp (fun s p => m.testBit s && q.testBit (p - 1)))) := by
  unfold fX3_inPaints lX3_inPaints_4
  refine jl_run2 (fun d x y => ∃ t, y = nI (t + 1) ∧ t + d = 3 ∧ x = nI (nbp (fun s p => m.testBit s && (q.testBit (p - 1) && decide (p ≤ t))))) ?_ F 3 _ _ ⟨0, rfl, rfl, ?_⟩ (by omega)
  · rintro d x y ⟨t, rfl, hd, rfl⟩
    rcases Nat.eq_zero_or_pos d with h0 | h0
    · left; intro k
      have : t = 3 := by omega
      subst this
      unfold bX3_inPaints_4
      simp (disch := omega) only [fa_lit, ni_bit, b2n_0, b2n_1, ni_m1, ni_of1, ni_ofm1, nI_add, pk_mul, nI_clamp, ni_lt, ni_le, ni_eq, ni_l, fa_litL, ln_le, ln_lt, ln_eq, jl_let_eq, Option.bind_some, ↓reduceIte, Nat.lt_irrefl]
      rw [if_pos (by omega)]
      exact congrArg (fun z => some (nI z)) (nbp_cong (fun s p _ h1 h3 => by simp [h3]))
    · right
      refine ⟨d - 1, _, _, by omega, ⟨t + 1, rfl, by omega, rfl⟩, ?_⟩
      intro k
      unfold bX3_inPaints_4 fX3_inPaints_32
      have a : ¬ 3 < t + 1 := by omega
      simp (disch := omega) only [fa_lit, ni_bit, b2n_0, b2n_1, ni_m1, ni_of1, ni_ofm1, nI_add, pk_mul, nI_clamp, ni_lt, ni_le, ni_eq, ni_l, fa_litL, ln_le, ln_lt, ln_eq, jl_let_eq, Option.bind_some, ↓reduceIte, a, pk_sub]
      rw [show t + 1 - 1 = t by omega, ni_shl _ (by omega)]
      have step : nbp (fun s p => m.testBit s && (q.testBit (p - 1) && decide (p ≤ t + 1))) = nbp (fun s p => m.testBit s && (q.testBit (p - 1) && decide (p ≤ t))) ||| (if q.testBit t = true then m * 2 ^ (9 * t) else 0) := by
        have hlt : m * 2 ^ (9 * t) < 2 ^ 27 := by
          rcases (show t = 0 ∨ t = 1 ∨ t = 2 by omega) with rfl | rfl | rfl <;> omega
        symm
        refine nbp_ext (Nat.or_lt_two_pow (nbp_lt _) (by split <;> omega)) (fun s p hs h1 h3 => ?_)
        rw [Nat.testBit_or, nbp_tb hs h1 h3]
        by_cases hp : p = t + 1
        · subst hp
          rw [show t + 1 - 1 = t by omega]
          have e1 : 9 * t ≤ 9 * t + s := by omega
          have e2 : 9 * t + s - 9 * t = s := by omega
          cases hqt : q.testBit t
          · simp
          · simp only [if_true]; rw [tb_shl, e2]; cases m.testBit s <;> simp [e1]
        · have z : (if q.testBit t = true then m * 2 ^ (9 * t) else 0).testBit (9 * (p - 1) + s) = false := by
            split
            · rw [tb_shl]
              by_cases hlt2 : p ≤ t
              · have : ¬ 9 * t ≤ 9 * (p - 1) + s := by omega
                simp [this]
              · have h9 : 9 ≤ 9 * (p - 1) + s - 9 * t := by omega
                rw [Nat.testBit_lt_two_pow (Nat.lt_of_lt_of_le hm (Nat.pow_le_pow_right (by omega) h9))]; simp
            · simp
          rw [z, Bool.or_false]
          have : decide (p ≤ t) = decide (p ≤ t + 1) := by apply decide_eq_decide.mpr; omega
          rw [this]
      rw [step]
      cases q.testBit t
      · simp only [if_true, Bool.false_eq_true, if_false, ni_or]
      · simp only [Bool.true_eq_false, if_false, if_true, ni_or]
  · have : nbp (fun s p => m.testBit s && (q.testBit (p - 1) && decide (p ≤ 0))) = 0 := by
      rw [nbp_zero]
      intro s p _ h1 _
      have : ¬ p ≤ 0 := by omega
      simp [this]
    rw [this]; rfl
theorem x_allPaints {P : Nat} (hP : P ≤ 3) : fX3_allPaints (nI P) = some (nI (2 ^ P - 1)) := by
  unfold fX3_allPaints
  simp only [fa_lit]
  rw [ni_shl _ (by omega), Nat.one_mul, pk_sub Nat.one_le_two_pow]
def nearS (R C s : Nat) : Nat := nb 9 (fun t => decide (t < R * C) && adj C s t)
def fcN (R C : Nat) : Nat := nb 9 (fun i => decide (i < R * C) && decide (i % C = 0))
theorem x_near_b : ((List.range 10).all fun R => (List.range 10).all fun C => (List.range 9).all fun s => !(decide (1 ≤ R) && (decide (1 ≤ C) && (decide (R * C ≤ 9) && decide (s < R * C)))) || decide (fX3_near (nI C) (nI (2 ^ (R * C) - 1)) (nI (fcN R C)) (nI (2 ^ s)) = some (nI (nearS R C s)))) = true := by decide +kernel
theorem x_near {R C s : Nat} (h1 : 1 ≤ R) (h2 : 1 ≤ C) (h : R * C ≤ 9) (hs : s < R * C) : fX3_near (nI C) (nI (2 ^ (R * C) - 1)) (nI (fcN R C)) (nI (2 ^ s)) = some (nI (nearS R C s)) := by
  have hR : R < 10 := by
    have := Nat.mul_le_mul_left R h2; omega
  have hC : C < 10 := by
    have := Nat.mul_le_mul_right C h1; omega
  have b := List.all_eq_true.mp (List.all_eq_true.mp (List.all_eq_true.mp x_near_b R (List.mem_range.mpr hR)) C (List.mem_range.mpr hC)) s (List.mem_range.mpr (by omega))
  simp only [h1, h2, h, hs, decide_true, Bool.and_true, Bool.not_true, Bool.false_or, decide_eq_true_eq] at b
  exact b
