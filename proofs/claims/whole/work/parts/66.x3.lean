/-! the class's plan: single stones and paints, settling -/
theorem x_paintingsOf {a b : Int32} {w : Nat} (hw : w ≤ 1) : fX3_paintingsOf a b (nI w) = some (if w = 0 then a else b) := by
  unfold fX3_paintingsOf
  rcases (show w = 0 ∨ w = 1 by omega) with rfl | rfl <;> rfl
/-- what he whose turn it is may paint -/
def chS (g : JP) (c : Nat → Nat) (w : Nat) : Nat := nbp (fun s p => decide (s < pn g) && mayA g c w s p)
theorem chS_eq {g : JP} (hg : GOK g) {c : Nat → Nat} (hc : CG g c) (w : Nat) : fitS g c &&& canS g w = chS g c w := by
  unfold fitS canS chS
  rw [nbp_and]
  refine nbp_cong (fun s p hs h1 h3 => ?_)
  apply Bool.eq_iff_iff.mpr
  simp only [mayA, Bool.and_eq_true, decide_eq_true_eq, Bool.not_eq_true', decide_eq_false_iff_not]
  have h9 := hc.2.2 s
  have hh := hg.2.2.2.2.2.2.1 w p
  constructor
  · rintro ⟨⟨a, b, d, e⟩, _, _, f⟩; exact ⟨a, b, f, e⟩
  · rintro ⟨a, b, f, e⟩; exact ⟨⟨a, b, (hh f).2, e⟩, a, fun z => by rw [h9.mpr z] at b; omega, f⟩
theorem chS_lt31 (g : JP) (c : Nat → Nat) (w : Nat) : chS g c w < 2 ^ 31 := nbp_lt31 _
theorem bN (b : Bool) : nI b.toNat = if b then 1 else 0 := by cases b <;> rfl
theorem x_paintsAt {h : Nat → Nat → Bool} {s : Nat} (hs : s < 9) : fX3_paintsAt (nI (nbp h)) (nI s) = some (nI (nb 3 (fun j => h s (j + 1)))) := by
  unfold fX3_paintsAt
  have hl := nbp_lt h
  have t0 : (nbp h / 2 ^ s).testBit 0 = h s 1 := by rw [tb_shr, Nat.zero_add]; have := nbp_tb (h := h) hs (Nat.le_refl 1) (by omega); simpa using this
  have t1 : (nbp h / 2 ^ s).testBit 9 = h s 2 := by rw [tb_shr]; have := nbp_tb (h := h) (p := 2) hs (by omega) (by omega); simpa using this
  have t2 : (nbp h / 2 ^ s).testBit 18 = h s 3 := by rw [tb_shr]; have := nbp_tb (h := h) (p := 3) hs (by omega) (by omega); simpa using this
  have hlt : nbp h / 2 ^ s < 2 ^ 31 := Nat.lt_of_le_of_lt (Nat.div_le_self _ _) (by omega)
  have m0 : nI (nbp h / 2 ^ s) &&& nI 1 = nI ((nbp h / 2 ^ s).testBit 0).toNat := by
    have := ni_bit (m := nbp h / 2 ^ s) (j := 0) hlt (by omega)
    rw [ni_shr hlt (by omega), Nat.pow_zero, Nat.div_one] at this; exact this
  simp only [fa_lit, jl_let_eq]
  rw [ni_shr (by omega) (by omega), m0, ni_bit hlt (by omega), ni_bit hlt (by omega), t0, t1, t2]
  show _ = some (nI (2 ^ 2 * (h s 3).toNat + (2 ^ 1 * (h s 2).toNat + (2 ^ 0 * (h s 1).toNat + 0))))
  generalize h s 1 = b1
  generalize h s 2 = b2
  generalize h s 3 = b3
  clear t0 t1 t2 m0
  revert b1 b2 b3
  decide
theorem x_paintOn {c : Nat → Nat} {s : Nat} (hs : s < 9) (hc : c s ≤ 3) : fX3_paintOn (nI (wornS c)) (nI s) = some (nI (c s)) := by
  unfold fX3_paintOn wornS
  rw [x_paintsAt hs, Option.bind_some]
  rcases (show c s = 0 ∨ c s = 1 ∨ c s = 2 ∨ c s = 3 by omega) with h | h | h | h <;> rw [h] <;> decide
theorem x_paintOn9 {c : Nat → Nat} {s : Nat} (hs : s < 9) (hc : c s = 9) : fX3_paintOn (nI (wornS c)) (nI s) = some (nI 0) := by
  unfold fX3_paintOn wornS
  rw [x_paintsAt hs, Option.bind_some, hc]
  decide
theorem x_withoutPaint {h : Nat → Nat → Bool} {m : Nat} (hm : m < 2 ^ 9) : fX3_withoutPaint (nI (nbp h)) (nI m) = some (nI (nbp (fun s p => h s p && !m.testBit s))) := by
  unfold fX3_withoutPaint
  simp only [fa_lit, ni_m1]
  rw [ni_shl _ (by omega), ni_shl _ (by omega), ni_or, ni_or, ni_adn]
  refine congrArg (fun z => some (nI z)) (nbp_ext (Nat.lt_of_le_of_lt Nat.and_le_left (nbp_lt h)) (fun s p hs h1 h3 => ?_))
  rw [adn_tb (by have := nbp_lt h; omega), nbp_tb hs h1 h3, Nat.testBit_or, Nat.testBit_or, tb_shl, tb_shl]
  have big : ∀ j, 9 ≤ j → m.testBit j = false := fun j hj => Nat.testBit_lt_two_pow (Nat.lt_of_lt_of_le hm (Nat.pow_le_pow_right (by omega) hj))
  rcases (show p = 1 ∨ p = 2 ∨ p = 3 by omega) with rfl | rfl | rfl
  · have e1 : ¬ 9 ≤ 9 * (1 - 1) + s := by omega
    have e2 : ¬ 18 ≤ 9 * (1 - 1) + s := by omega
    have e3 : 9 * (1 - 1) + s = s := by omega
    have a : ¬ 9 ≤ s := by omega
    have b : ¬ 18 ≤ s := by omega
    simp [a, b]
  · have e1 : 9 ≤ 9 * (2 - 1) + s := by omega
    have e2 : ¬ 18 ≤ 9 * (2 - 1) + s := by omega
    have e3 : 9 * (2 - 1) + s - 9 = s := by omega
    rw [big _ e1]; simp only [e1, e2, decide_false, decide_true, Bool.false_and, Bool.true_and, Bool.or_false, Bool.false_or, e3]
  · have e1 : 9 ≤ 9 * (3 - 1) + s := by omega
    have e2 : 18 ≤ 9 * (3 - 1) + s := by omega
    have e3 : 9 * (3 - 1) + s - 18 = s := by omega
    have e4 : 9 ≤ 9 * (3 - 1) + s - 9 := by omega
    rw [big _ e1, big _ e4]; simp only [e1, e2, decide_true, Bool.true_and, Bool.false_or, e3]
theorem x_hasStone {R C : Nat} (h : R * C ≤ 9) (hR : R ≤ 9) (hC : C ≤ 9) (s : Int32) : fX3_hasStone (nI R) (nI C) s = some (nI (isN s (R * C)).toNat) := by
  unfold fX3_hasStone fX3_stones isN
  rw [pk_mul, Option.bind_some]
  have hr := fb_rng s
  have e0 : (s < 0) = (s.toInt < 0) := by rw [fa_lt]; rfl
  have e1 : (nI (R * C) ≤ s) = ((R * C : Int) ≤ s.toInt) := by
    rw [fa_le, nI_toInt (by omega)]; simp
  simp only [e0, e1]
  by_cases h1 : s.toInt < 0
  · have : ¬ 0 ≤ s.toInt := by omega
    simp [h1, this]; rfl
  · by_cases h2 : (R * C : Int) ≤ s.toInt
    · have : ¬ s.toInt < (↑(R * C) : Int) := by simp; omega
      simp only [h1, h2, if_true, if_false, this, decide_false, Bool.and_false]; rfl
    · have a : s.toInt < (↑(R * C) : Int) := by simp; omega
      have b : 0 ≤ s.toInt := by omega
      simp only [h1, h2, if_false, a, b, decide_true, Bool.and_true]; rfl
theorem x_hasPaint {P : Nat} (hP : P ≤ 3) (p : Int32) : fX3_hasPaint (nI P) p = some (nI (isP p P).toNat) := by
  unfold fX3_hasPaint isP
  have e0 : (p < 1) = (p.toInt < 1) := by rw [fa_lt]; rfl
  have e1 : (nI P < p) = ((P : Int) < p.toInt) := by rw [fa_lt, nI_toInt (by omega)]
  simp only [e0, e1]
  by_cases h1 : p.toInt < 1
  · have : ¬ 1 ≤ p.toInt := by omega
    simp [h1, this]; rfl
  · by_cases h2 : (P : Int) < p.toInt
    · have : ¬ p.toInt ≤ P := by omega
      simp [h1, h2, this]; rfl
    · have a : p.toInt ≤ P := by omega
      have b : 1 ≤ p.toInt := by omega
      simp [h1, h2, a, b]; rfl
theorem x_pair {a b : Nat} (h1 : 1 ≤ a) (h2 : a ≤ 3) (h3 : 1 ≤ b) (h4 : b ≤ 3) : fX3_pair (nI a) (nI b) = some (nI (2 ^ (3 * (a - 1) + (b - 1)))) := by
  unfold fX3_pair
  simp (disch := omega) only [fa_lit, pk_sub, pk_mul, nI_add]
  rw [ni_shl _ (by omega), Nat.one_mul, show 3 * (a - 1) + b - 1 = 3 * (a - 1) + (b - 1) by omega]
theorem x_mayTouch {g : JP} {rows columns paints apart po0 po1 old shut : Int32} (hX : XU g rows columns paints apart po0 po1 old shut) {a b : Nat} (h1 : 1 ≤ a) (h2 : a ≤ 3) (h3 : 1 ≤ b) (h4 : b ≤ 3) : fX3_mayTouch apart (nI a) (nI b) = some (nI (pT g a b).toNat) := by
  obtain ⟨-, -, -, ⟨ap, hap, rfl, hb⟩, -⟩ := hX
  unfold fX3_mayTouch
  rw [x_pair h1 h2 h3 h4, Option.bind_some]
  have := hb a b h1 h2 h3 h4
  have e := fa_bit (n := ap) (j := 3 * (a - 1) + (b - 1)) (by omega)
  rw [this] at e
  cases hT : pT g a b
  · rw [hT] at e; rw [if_neg (by rw [e]; simp)]; rfl
  · rw [hT] at e; rw [if_pos (by rw [e]; simp)]; rfl
theorem x_inPaints_some (F : Nat) (hF : 5 ≤ F) (x q : Int32) : ∃ r, fX3_inPaints F x q = some r := by
  obtain ⟨n, rfl⟩ : ∃ n, F = n + 5 := ⟨F - 5, by omega⟩
  unfold fX3_inPaints lX3_inPaints_4
  have l1 : (1 : Int32) + Int32.ofInt 1 = 2 := by decide
  have l2 : (2 : Int32) + Int32.ofInt 1 = 3 := by decide
  have l3 : (3 : Int32) + Int32.ofInt 1 = 4 := by decide
  have g1 : ¬ (3 : Int32) < 1 := by decide
  have g2 : ¬ (3 : Int32) < 2 := by decide
  have g3 : ¬ (3 : Int32) < 3 := by decide
  have g4 : (3 : Int32) < 4 := by decide
  simp only [jl_loop2_s, bX3_inPaints_4, fX3_inPaints_32, jl_let_eq, l1, l2, l3, g1, g2, g3, g4, if_true, if_false]
  split <;> split <;> split <;> exact ⟨_, rfl⟩
theorem x_ruledOutBy {g : JP} (hg : GOK g) {rows columns paints apart po0 po1 old shut : Int32} (hX : XU g rows columns paints apart po0 po1 old shut) {s p F : Nat} (hs : s < 9) (h1 : 1 ≤ p) (h3 : p ≤ 3) (hF : 5 ≤ F) : ∃ r, fX3_ruledOutBy F columns apart (nI (2 ^ pn g - 1)) (nI (fcN (pR g) (pC g))) (nI s) (nI p) = some r ∧ (s < pn g → r = nI (rulS g s p)) := by
  have hmt := fun b h1' h3' => x_mayTouch hX (a := p) (b := b) h1 h3 h1' h3'
  have hn := hg.2.2.1
  have foes : ∀ (E : Option Int32), (∀ q, q < 8 → (∀ j, j < 3 → q.testBit j = !pT g p (j + 1)) → ((fX3_inPaints F ((1 : Int32) <<< (nI s &&& 31)) 7).bind fun r4 => ((fX3_near columns (nI (2 ^ pn g - 1)) (nI (fcN (pR g) (pC g))) ((1 : Int32) <<< (nI s &&& 31))).bind fun r6 => ((fX3_inPaints F r6 (nI q)).bind fun r8 => (some (r4 ||| r8))))) = E) → fX3_ruledOutBy F columns apart (nI (2 ^ pn g - 1)) (nI (fcN (pR g) (pC g))) (nI s) (nI p) = E := by
    intro E hE
    unfold fX3_ruledOutBy lX3_ruledOutBy_5
    refine jl_run2 (fun d x y => ∃ t, y = nI (t + 1) ∧ t + d = 3 ∧ x = nI (nb 3 (fun j => decide (j < t) && !pT g p (j + 1)))) ?_ F 3 _ _ ⟨0, rfl, rfl, by rw [nb_cong (g := fun _ => false) (fun i _ => by simp)]; rfl⟩ (by omega)
    rintro d x y ⟨t, rfl, hd, rfl⟩
    rcases Nat.eq_zero_or_pos d with h0 | h0
    · left; intro k
      have : t = 3 := by omega
      subst this
      unfold bX3_ruledOutBy_5
      rw [if_pos (by decide)]
      refine hE _ (nb_lt 3 _) (fun j hj => ?_)
      rw [nb_tb]; simp [hj]
    · right
      refine ⟨d - 1, _, _, by omega, ⟨t + 1, rfl, by omega, rfl⟩, ?_⟩
      intro k
      unfold bX3_ruledOutBy_5 fX3_ruledOutBy_32
      have a : ¬ 3 < t + 1 := by omega
      have hm := hmt (t + 1) (by omega) (by omega)
      simp (disch := omega) only [fa_lit, ni_bit, b2n_0, b2n_1, ni_m1, ni_of1, ni_ofm1, nI_add, pk_mul, nI_clamp, ni_lt, ni_le, ni_eq, ni_l, fa_litL, ln_le, ln_lt, ln_eq, jl_let_eq, Option.bind_some, ↓reduceIte, a, hm, pk_sub]
      rw [show t + 1 - 1 = t by omega, ni_shl _ (by omega), Nat.one_mul]
      have step : nb 3 (fun j => decide (j < t + 1) && !pT g p (j + 1)) = nb 3 (fun j => decide (j < t) && !pT g p (j + 1)) ||| (if pT g p (t + 1) = true then 0 else 2 ^ t) := by
        symm
        have h2t : 2 ^ t < 2 ^ 3 := Nat.pow_lt_pow_right (by omega) (by omega)
        refine nb_ext (Nat.or_lt_two_pow (nb_lt _ _) (by split <;> omega)) (fun j hj => ?_)
        rw [Nat.testBit_or, nb_tb]
        by_cases hjt : j = t
        · subst hjt
          cases hT : pT g p (j + 1)
          · simp [Nat.testBit_two_pow]
          · simp
        · have z : (if pT g p (t + 1) = true then 0 else 2 ^ t).testBit j = false := by
            split
            · simp
            · rw [Nat.testBit_two_pow]; simp; omega
          rw [z, Bool.or_false]
          have : decide (j < t) = decide (j < t + 1) := by apply decide_eq_decide.mpr; omega
          simp [hj, this]
      rw [step]
      cases pT g p (t + 1)
      · simp only [Bool.false_eq_true, if_true, if_false, ni_or]
      · simp only [Bool.true_eq_false, if_true, if_false, ni_or]
  have e1 : (1 : Int32) <<< (nI s &&& 31) = nI (2 ^ s) := by
    have := ni_shl 1 (j := s) (by omega)
    rw [Nat.one_mul] at this; exact this
  rw [e1] at foes
  have h2s : 2 ^ s < 2 ^ 9 := Nat.pow_lt_pow_right (by omega) hs
  have hnear : ∃ v, fX3_near columns (nI (2 ^ pn g - 1)) (nI (fcN (pR g) (pC g))) (nI (2 ^ s)) = some v ∧ (s < pn g → v = nI (nearS (pR g) (pC g) s)) := by
    rw [hX.2.1]
    by_cases hsn : s < pn g
    · exact ⟨_, x_near hg.1 hg.2.1 hn hsn, fun _ => rfl⟩
    · unfold fX3_near; simp only [jl_let_eq]; exact ⟨_, rfl, fun h => absurd h hsn⟩
  obtain ⟨v, hv, hv2⟩ := hnear
  by_cases hsn : s < pn g
  · refine ⟨nI (rulS g s p), foes _ (fun q hq hqb => ?_), fun _ => rfl⟩
    rw [show (7 : Int32) = nI 7 from rfl, x_inPaints h2s (by omega) hF, Option.bind_some, hv, Option.bind_some, hv2 hsn, x_inPaints (m := nearS (pR g) (pC g) s) (nb_lt 9 _) hq hF, Option.bind_some, ni_or, nbp_or]
    refine congrArg (fun z => some (nI z)) (nbp_cong (fun t u ht hu1 hu3 => ?_))
    unfold rulB nearS
    rw [nb_tb, Nat.testBit_two_pow, hqb _ (by omega), show u - 1 + 1 = u by omega]
    have h7 : (7 : Nat).testBit (u - 1) = true := by
      rcases (show u = 1 ∨ u = 2 ∨ u = 3 by omega) with rfl | rfl | rfl <;> decide
    rw [h7, Bool.and_true]
    have : decide (s = t) = decide (t = s) := by apply decide_eq_decide.mpr; exact eq_comm
    rw [this]
    unfold pn
    simp only [ht, decide_true, Bool.true_and, Bool.and_assoc]
  · obtain ⟨r4, h4⟩ := x_inPaints_some F hF (nI (2 ^ s)) 7
    -- the paints that it may not touch are one number
    have hq : ∃ q, q < 8 ∧ ∀ j, j < 3 → q.testBit j = !pT g p (j + 1) := ⟨nb 3 (fun j => !pT g p (j + 1)), nb_lt 3 _, fun j hj => by rw [nb_tb]; simp [hj]⟩
    obtain ⟨q, hq8, hqb⟩ := hq
    obtain ⟨r8, h8⟩ := x_inPaints_some F hF v (nI q)
    refine ⟨r4 ||| r8, foes _ (fun q' hq' hqb' => ?_), fun h => absurd h hsn⟩
    have : q' = q := by
      rw [← nb_of (n := 3) hq', ← nb_of (n := 3) hq8]
      exact nb_cong (fun i hi => by rw [hqb' i hi, hqb i hi])
    rw [this, h4, Option.bind_some, hv, Option.bind_some, h8, Option.bind_some]
