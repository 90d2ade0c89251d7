theorem adn_all : ∀ P, P < 4 → ∀ b, b < 100 → (adn b (2 ^ P - 1) = 0) = (b < 2 ^ P) := by decide +kernel
theorem takes_104 {L : JL} {g : JP} {st pt : Bool} {stT ptT rows columns paints apart po0 po1 old shut : Int32} {told touches has old_ got : Nat → Int32} (h : DR L g st pt stT ptT rows columns paints apart po0 po1 old shut told touches has old_) {a b : Nat} (ha : a ≤ 99) (hb : b ≤ 99) (e0 : got 0 = nI a) (e1 : got 1 = nI b) :
    ∃ rx rm, fX4_takes (nI a) (nI b) stT ptT rows columns paints apart po0 po1 old shut 104 = some rx ∧ fX10_isGood told touches has old_ got 104 = some rm ∧ TK L rx rm := by
  obtain ⟨hg, ⟨hR, hC, hP, hap, hq0, hq1, hold, hsh⟩, hst, hpt, ⟨m4, m5, m6, m7⟩, mT, mH, mO, hp0, hs0, hL⟩ := h
  have hg0 := hg
  obtain ⟨h1, h2, h3, h4, h5, h6, h7, h8, h9⟩ := hg
  unfold fX4_takes fX4_takesPainter fX9_isPainter fX10_isGood
  simp only [q97_104, q97_109, q97_110, q97_114, q97_119, q97_120, q104_97, q104_109, q104_110, q104_114, q104_119, q104_120, q109_97, q109_104, q109_110, q109_114, q109_119, q109_120, q110_97, q110_104, q110_109, q110_114, q110_119, q110_120, q114_97, q114_104, q114_109, q114_110, q114_119, q114_120, q119_97, q119_104, q119_109, q119_110, q119_114, q119_120, q120_97, q120_104, q120_109, q120_110, q120_114, q120_119, ↓reduceIte]
  simp only [jl_let_eq, t0, t1, t2, t3, t4, t5, t6, t7, e0, e1, Option.bind_some, m7, or2]
  rw [upd_n (show (6 : Nat) ≠ 7 by omega), m6, one_shl (by omega), hP, x_allPaints h5]
  have hP8 : 2 ^ pP g ≤ 2 ^ 3 := Nat.pow_le_pow_right (by omega) h5
  by_cases ha1 : a ≤ 1
  · have hl1 : ¬ (1 : Int32) < nI a := by rw [(show (1 : Int32) = nI 1 from rfl), nI_ltI (by omega) (by omega)]; omega
    have hpn : (if nI a = 0 then some (1 : Int32) else if nI a = 1 then some 1 else some 0) = some 1 := by
      rcases (show a = 0 ∨ a = 1 by omega) with h | h <;> subst h <;> decide
    rw [if_neg hl1, hpn, Option.bind_some, if_neg (by decide), Option.bind_some, show (-1 : Int32) = -nI 1 from rfl, ni_adn]
    have hlt : (nI b < nI (2 ^ pP g)) = (b < 2 ^ pP g) := ni_lt (by omega) (by omega)
    have had : (nI (adn b (2 ^ pP g - 1)) = 0) = (b < 2 ^ pP g) := by
      have := adn_all (pP g) (by omega) b (by omega)
      rw [← this]
      refine ni_eq (b := 0) ?_ (by omega)
      have : adn b (2 ^ pP g - 1) ≤ b := Nat.and_le_left
      omega
    simp only [hlt, had]
    by_cases hbP : b < 2 ^ pP g
    · rw [if_pos hbP, if_pos hbP, (show (2 : Int32) = nI 2 from rfl), nI_add, nI_clamp (by omega)]
      have hHd : ∀ i p, (fun i p => if i = a then decide (1 ≤ p) && b.testBit (p - 1) else pH g i p) i p = true → 1 ≤ p ∧ p ≤ pP g := by
        intro i p hp
        dsimp only at hp
        by_cases e : i = a
        · rw [if_pos e, Bool.and_eq_true, decide_eq_true_eq] at hp
          refine ⟨hp.1, ?_⟩
          apply Nat.le_of_not_lt
          intro q
          have := Nat.testBit_lt_two_pow (Nat.lt_of_lt_of_le hbP (Nat.pow_le_pow_right (show 0 < 2 by omega) (show pP g ≤ p - 1 by omega)))
          rw [this] at hp; exact absurd hp.2 (by decide)
        · rw [if_neg e] at hp; exact h7 i p hp
      have hbq : ∀ p, 1 ≤ p → (b.testBit (p - 1) && decide (p ≤ pP g)) = (decide (1 ≤ p) && b.testBit (p - 1)) := by
        intro p hp
        rw [decide_eq_true hp, Bool.true_and]
        by_cases q : p ≤ pP g
        · rw [decide_eq_true q, Bool.and_true]
        · have := Nat.testBit_lt_two_pow (Nat.lt_of_lt_of_le hbP (Nat.pow_le_pow_right (show 0 < 2 by omega) (show pP g ≤ p - 1 by omega)))
          rw [this]; rfl
      have hnb : nb 3 (fun j => decide (1 ≤ j + 1) && b.testBit j) = b := by
        refine (nb_ext (by omega) (fun i hi => ?_)).symm
        rw [decide_eq_true (show 1 ≤ i + 1 by omega), Bool.true_and]
      have b8 : b < 8 := by omega
      have hmH : ∀ i, i < 2 → upd has (2 + a) (nI b) (2 + i) = nI (nb 3 (fun j => if i = a then decide (1 ≤ j + 1) && b.testBit j else pH g i (j + 1))) := by
        intro i hi
        by_cases e : i = a
        · rw [upd_s (by omega)]; simp only [if_pos e]; rw [hnb]
        · rw [upd_n (by omega)]; simp only [if_neg e]; exact mH i hi
      have hmO : GOK (g.1, g.2.1, g.2.2.1, g.2.2.2.1, (fun i p => if i = a then decide (1 ≤ p) && b.testBit (p - 1) else pH g i p), g.2.2.2.2.2) := ⟨h1, h2, h3, h4, h5, h6, hHd, h8, h9⟩
      rcases (show a = 0 ∨ a = 1 by omega) with h | h
      · subst h
        apply tk_i
        · rw [if_neg (by decide)]
        · rw [if_pos (show nI 0 = 0 by decide)]; rfl
        · refine Or.inr ⟨Eq.refl (1 : Int32), Eq.refl (1 : Int32), (g.1, g.2.1, g.2.2.1, g.2.2.2.1, (fun i p => if i = 0 then decide (1 ≤ p) && b.testBit (p - 1) else pH g i p), g.2.2.2.2.2), st, true, ?_⟩
          dsimp only
          refine ⟨hmO, ⟨hR, hC, rfl, hap, ⟨b, b8, rfl, fun p p1 p3 => ?_⟩, ?_, hold, hsh⟩, hst, rfl, ⟨?_, ?_, ?_, upd_s rfl⟩, mT, hmH, mO, fun q => absurd q (by decide), hs0, (hL.told (by omega) _).has (by omega) _⟩
          · exact hbq p p1
          · exact hq1
          · rw [upd_n (by omega)]; exact m4
          · rw [upd_n (by omega)]; exact m5
          · rw [upd_n (by omega)]; exact m6
      · subst h
        apply tk_i
        · rw [if_neg (by decide)]
        · rw [if_neg (by decide)]; rfl
        · refine Or.inr ⟨Eq.refl (1 : Int32), Eq.refl (1 : Int32), (g.1, g.2.1, g.2.2.1, g.2.2.2.1, (fun i p => if i = 1 then decide (1 ≤ p) && b.testBit (p - 1) else pH g i p), g.2.2.2.2.2), st, true, ?_⟩
          dsimp only
          refine ⟨hmO, ⟨hR, hC, rfl, hap, ?_, ⟨b, b8, rfl, fun p p1 p3 => ?_⟩, hold, hsh⟩, hst, rfl, ⟨?_, ?_, ?_, upd_s rfl⟩, mT, hmH, mO, fun q => absurd q (by decide), hs0, (hL.told (by omega) _).has (by omega) _⟩
          · exact hq0
          · exact hbq p p1
          · rw [upd_n (by omega)]; exact m4
          · rw [upd_n (by omega)]; exact m5
          · rw [upd_n (by omega)]; exact m6
    · rw [if_neg hbP, if_neg hbP]
      apply tk_i
      · rfl
      · rfl
      · exact Or.inl ⟨Eq.refl (0 : Int32), Eq.refl (0 : Int32), hL.told (by omega) _⟩
  · have hl1 : (1 : Int32) < nI a := by rw [(show (1 : Int32) = nI 1 from rfl), nI_ltI (by omega) (by omega)]; omega
    have n0 : ¬ nI a = 0 := by rw [(show (0 : Int32) = nI 0 from rfl), nI_eq (by omega) (by omega)]; omega
    have n1 : ¬ nI a = 1 := by rw [(show (1 : Int32) = nI 1 from rfl), nI_eq (by omega) (by omega)]; omega
    rw [if_pos hl1, if_neg n0, if_neg n1]
    apply tk_i
    · rfl
    · rfl
    · exact Or.inl ⟨Eq.refl (0 : Int32), Eq.refl (0 : Int32), hL.told (by omega) _⟩
/-- paints a and b told to touch well or ill -/
def upT (T : Nat → Nat → Bool) (a b : Nat) (v : Bool) : Nat → Nat → Bool := fun x y => if (x = a ∧ y = b) ∨ (x = b ∧ y = a) then v else T x y
theorem apart_bits {T : Nat → Nat → Bool} {ap a b : Nat} (hap : ap < 2 ^ 9) (h : ∀ x y, 1 ≤ x → x ≤ 3 → 1 ≤ y → y ≤ 3 → ap.testBit (3 * (x - 1) + (y - 1)) = !T x y) (a1 : 1 ≤ a) (a3 : a ≤ 3) (b1 : 1 ≤ b) (b3 : b ≤ 3) :
    (adn ap (2 ^ (3 * (a - 1) + (b - 1)) ||| 2 ^ (3 * (b - 1) + (a - 1))) < 2 ^ 9 ∧ ∀ x y, 1 ≤ x → x ≤ 3 → 1 ≤ y → y ≤ 3 → (adn ap (2 ^ (3 * (a - 1) + (b - 1)) ||| 2 ^ (3 * (b - 1) + (a - 1)))).testBit (3 * (x - 1) + (y - 1)) = !upT T a b true x y) ∧
    (ap ||| (2 ^ (3 * (a - 1) + (b - 1)) ||| 2 ^ (3 * (b - 1) + (a - 1))) < 2 ^ 9 ∧ ∀ x y, 1 ≤ x → x ≤ 3 → 1 ≤ y → y ≤ 3 → (ap ||| (2 ^ (3 * (a - 1) + (b - 1)) ||| 2 ^ (3 * (b - 1) + (a - 1)))).testBit (3 * (x - 1) + (y - 1)) = !upT T a b false x y) := by
  have k1 : 2 ^ (3 * (a - 1) + (b - 1)) < 2 ^ 9 := Nat.pow_lt_pow_right (by omega) (by omega)
  have k2 : 2 ^ (3 * (b - 1) + (a - 1)) < 2 ^ 9 := Nat.pow_lt_pow_right (by omega) (by omega)
  have key : ∀ x y, 1 ≤ x → x ≤ 3 → 1 ≤ y → y ≤ 3 → ((2 ^ (3 * (a - 1) + (b - 1)) ||| 2 ^ (3 * (b - 1) + (a - 1))).testBit (3 * (x - 1) + (y - 1)) = decide ((x = a ∧ y = b) ∨ (x = b ∧ y = a))) := by
    intro x y x1 x3 y1 y3
    rw [Nat.testBit_or, Nat.testBit_two_pow, Nat.testBit_two_pow, ← Bool.decide_or]
    apply decide_eq_decide.mpr
    constructor
    · rintro (q | q)
      · exact Or.inl (by omega)
      · exact Or.inr (by omega)
    · rintro (⟨rfl, rfl⟩ | ⟨rfl, rfl⟩)
      · exact Or.inl rfl
      · exact Or.inr rfl
  refine ⟨⟨Nat.lt_of_le_of_lt Nat.and_le_left hap, fun x y x1 x3 y1 y3 => ?_⟩, ⟨Nat.or_lt_two_pow hap (Nat.or_lt_two_pow k1 k2), fun x y x1 x3 y1 y3 => ?_⟩⟩
  · rw [adn_tb (by omega), key x y x1 x3 y1 y3, h x y x1 x3 y1 y3]
    unfold upT
    by_cases q : (x = a ∧ y = b) ∨ (x = b ∧ y = a)
    · rw [if_pos q, decide_eq_true q]; cases T x y <;> rfl
    · rw [if_neg q, decide_eq_false q]; cases T x y <;> rfl
  · rw [Nat.testBit_or, key x y x1 x3 y1 y3, h x y x1 x3 y1 y3]
    unfold upT
    by_cases q : (x = a ∧ y = b) ∨ (x = b ∧ y = a)
    · rw [if_pos q, decide_eq_true q]; cases T x y <;> rfl
    · rw [if_neg q, decide_eq_false q]; cases T x y <;> rfl
theorem touch_upd {T : Nat → Nat → Bool} {touches : Nat → Int32} {a b : Nat} {v : Bool} {z : Int32} (hz : z = nI v.toNat) (h : ∀ x y, 1 ≤ x → x ≤ 3 → 1 ≤ y → y ≤ 3 → touches (16 + (4 * x + y)) = nI (T x y).toNat) (a1 : 1 ≤ a) (a3 : a ≤ 3) (b1 : 1 ≤ b) (b3 : b ≤ 3) :
    ∀ x y, 1 ≤ x → x ≤ 3 → 1 ≤ y → y ≤ 3 → upd (upd touches (16 + 4 * a + b) z) (16 + 4 * b + a) z (16 + (4 * x + y)) = nI (upT T a b v x y).toNat := by
  intro x y x1 x3 y1 y3
  unfold upT
  by_cases q : (x = a ∧ y = b) ∨ (x = b ∧ y = a)
  · rw [if_pos q]
    by_cases q2 : x = b ∧ y = a
    · rw [upd_s (by omega), hz]
    · rw [upd_n (by omega), upd_s (by omega), hz]
  · rw [if_neg q, upd_n (by omega), upd_n (by omega)]; exact h x y x1 x3 y1 y3
theorem GOK.touch {g : JP} (hg : GOK g) (a b : Nat) (v : Bool) : GOK (g.1, g.2.1, g.2.2.1, upT g.2.2.2.1 a b v, g.2.2.2.2.1, g.2.2.2.2.2) := by
  obtain ⟨h1, h2, h3, h4, h5, h6, h7, h8, h9⟩ := hg
  refine ⟨h1, h2, h3, h4, h5, fun x y => ?_, h7, h8, h9⟩
  show upT (pT g) a b v x y = upT (pT g) a b v y x
  unfold upT
  by_cases q : (x = a ∧ y = b) ∨ (x = b ∧ y = a)
  · rw [if_pos q, if_pos (by omega)]
  · rw [if_neg q, if_neg (by omega)]; exact h6 x y
theorem takes_pair {L : JL} {g : JP} {st pt : Bool} {stT ptT rows columns paints apart po0 po1 old shut : Int32} {told touches has old_ got : Nat → Int32} (h : DR L g st pt stT ptT rows columns paints apart po0 po1 old shut told touches has old_) {a b : Nat} (ha : a ≤ 99) (hb : b ≤ 99) (e0 : got 0 = nI a) (e1 : got 1 = nI b) {l : Int32} (hl : l = 109 ∨ l = 120) :
    ∃ rx rm, fX4_takes (nI a) (nI b) stT ptT rows columns paints apart po0 po1 old shut l = some rx ∧ fX10_isGood told touches has old_ got l = some rm ∧ TK L rx rm := by
  obtain ⟨hg, ⟨hR, hC, hP, ⟨ap, hap1, hap2, hap3⟩, hq0, hq1, hold, hsh⟩, hst, hpt, ⟨m4, m5, m6, m7⟩, mT, mH, mO, hp0, hs0, hL⟩ := h
  have hP3 := hg.2.2.2.2.1
  unfold fX10_isGood
  have kx : fX4_takes (nI a) (nI b) stT ptT rows columns paints apart po0 po1 old shut l = fX4_takes_136 (nI a) (nI b) l (if l = 109 then 0 else 1) stT ptT rows columns paints apart po0 po1 old shut := by
    unfold fX4_takes
    rcases hl with rfl | rfl <;> simp only [q97_104, q97_109, q97_110, q97_114, q97_119, q97_120, q104_97, q104_109, q104_110, q104_114, q104_119, q104_120, q109_97, q109_104, q109_110, q109_114, q109_119, q109_120, q110_97, q110_104, q110_109, q110_114, q110_119, q110_120, q114_97, q114_104, q114_109, q114_110, q114_119, q114_120, q119_97, q119_104, q119_109, q119_110, q119_114, q119_120, q120_97, q120_104, q120_109, q120_110, q120_114, q120_119, ↓reduceIte]
  have j1 : (l = 97) = False := by rcases hl with rfl | rfl <;> simp only [q97_104, q97_109, q97_110, q97_114, q97_119, q97_120, q104_97, q104_109, q104_110, q104_114, q104_119, q104_120, q109_97, q109_104, q109_110, q109_114, q109_119, q109_120, q110_97, q110_104, q110_109, q110_114, q110_119, q110_120, q114_97, q114_104, q114_109, q114_110, q114_119, q114_120, q119_97, q119_104, q119_109, q119_110, q119_114, q119_120, q120_97, q120_104, q120_109, q120_110, q120_114, q120_119]
  have j2 : (l = 104) = False := by rcases hl with rfl | rfl <;> simp only [q97_104, q97_109, q97_110, q97_114, q97_119, q97_120, q104_97, q104_109, q104_110, q104_114, q104_119, q104_120, q109_97, q109_104, q109_110, q109_114, q109_119, q109_120, q110_97, q110_104, q110_109, q110_114, q110_119, q110_120, q114_97, q114_104, q114_109, q114_110, q114_119, q114_120, q119_97, q119_104, q119_109, q119_110, q119_114, q119_120, q120_97, q120_104, q120_109, q120_110, q120_114, q120_119]
  have j3 : (l = 110) = False := by rcases hl with rfl | rfl <;> simp only [q97_104, q97_109, q97_110, q97_114, q97_119, q97_120, q104_97, q104_109, q104_110, q104_114, q104_119, q104_120, q109_97, q109_104, q109_110, q109_114, q109_119, q109_120, q110_97, q110_104, q110_109, q110_114, q110_119, q110_120, q114_97, q114_104, q114_109, q114_110, q114_119, q114_120, q119_97, q119_104, q119_109, q119_110, q119_114, q119_120, q120_97, q120_104, q120_109, q120_110, q120_114, q120_119]
  have j4 : (l = 114) = False := by rcases hl with rfl | rfl <;> simp only [q97_104, q97_109, q97_110, q97_114, q97_119, q97_120, q104_97, q104_109, q104_110, q104_114, q104_119, q104_120, q109_97, q109_104, q109_110, q109_114, q109_119, q109_120, q110_97, q110_104, q110_109, q110_114, q110_119, q110_120, q114_97, q114_104, q114_109, q114_110, q114_119, q114_120, q119_97, q119_104, q119_109, q119_110, q119_114, q119_120, q120_97, q120_104, q120_109, q120_110, q120_114, q120_119]
  have j5 : (l = 119) = False := by rcases hl with rfl | rfl <;> simp only [q97_104, q97_109, q97_110, q97_114, q97_119, q97_120, q104_97, q104_109, q104_110, q104_114, q104_119, q104_120, q109_97, q109_104, q109_110, q109_114, q109_119, q109_120, q110_97, q110_104, q110_109, q110_114, q110_119, q110_120, q114_97, q114_104, q114_109, q114_110, q114_119, q114_120, q119_97, q119_104, q119_109, q119_110, q119_114, q119_120, q120_97, q120_104, q120_109, q120_110, q120_114, q120_119]
  rw [kx]
  simp only [j1, j2, j3, j4, j5, ↓reduceIte]
  simp only [jl_let_eq, t0, t1, t2, t3, t4, t5, t6, t7, e0, e1, Option.bind_some, m7, or2]
  rw [upd_n (show (6 : Nat) ≠ 7 by omega), m6, in1 (by omega) hP3, in1 (by omega) hP3]
  unfold fX4_takes_136 fX4_takesPair
  rw [hP, x_hasPaint hP3, x_hasPaint hP3, isP_nI (by omega), isP_nI (by omega), Option.bind_some, Option.bind_some, Option.bind_some, Option.bind_some]
  by_cases haP : 1 ≤ a ∧ a ≤ pP g
  · have fa : (decide (1 ≤ a) && decide (a ≤ pP g)) = true := by rw [Bool.and_eq_true, decide_eq_true_eq, decide_eq_true_eq]; exact haP
    rw [fa, if_neg (show ¬ nI true.toNat = 0 by decide), if_neg (show ¬ nI true.toNat = 0 by decide)]
    by_cases hbP : 1 ≤ b ∧ b ≤ pP g
    · have fb : (decide (1 ≤ b) && decide (b ≤ pP g)) = true := by rw [Bool.and_eq_true, decide_eq_true_eq, decide_eq_true_eq]; exact hbP
      rw [fb, if_neg (show ¬ nI true.toNat = 0 by decide), if_neg (show ¬ nI true.toNat = 0 by decide)]
      obtain ⟨⟨w1, w2⟩, w3, w4⟩ := apart_bits hap1 hap3 haP.1 (show a ≤ 3 by omega) hbP.1 (show b ≤ 3 by omega)
      unfold fX3_setTogether fX3_setApart
      rw [x_pair haP.1 (by omega) hbP.1 (by omega), x_pair hbP.1 (by omega) haP.1 (by omega)]
      simp only [Option.bind_some, jl_let_eq]
      rw [hap2, ni_or, show (-1 : Int32) = -nI 1 from rfl, ni_adn, ni_or]
      have i1 : (16 : Int32) + 4 * nI a + nI b = nI (16 + 4 * a + b) := by
        rw [show (4 : Int32) * nI a = nI (4 * a) from pk_mul 4 a, show (16 : Int32) + nI (4 * a) = nI (16 + 4 * a) from nI_add 16 _, nI_add]
      have i2 : (16 : Int32) + 4 * nI b + nI a = nI (16 + 4 * b + a) := by
        rw [show (4 : Int32) * nI b = nI (4 * b) from pk_mul 4 b, show (16 : Int32) + nI (4 * b) = nI (16 + 4 * b) from nI_add 16 _, nI_add]
      have g1 : ¬ (nI (16 + 4 * a + b) < 0 ∨ 32 ≤ 16 + 4 * a + b) := by
        rintro (q | q)
        · exact nI_pos (by omega) q
        · omega
      have g2 : ¬ (nI (16 + 4 * b + a) < 0 ∨ 32 ≤ 16 + 4 * b + a) := by
        rintro (q | q)
        · exact nI_pos (by omega) q
        · omega
      rcases hl with rfl | rfl
      · apply tk_i
        · rw [if_pos rfl]
          unfold fX10_isGood_401 fX10_isGood_425
          simp only [i1, i2]
          rw [nI_clamp (by omega), nI_clamp (by omega), if_neg g1]
          simp only [jl_let_eq, ↓reduceIte]
          rw [if_neg g2]
        · simp only [↓reduceIte]
          unfold fX4_takesPair_55
          rw [Option.bind_some, if_pos (Or.inr (Eq.refl (1 : Int32)))]
        · refine Or.inr ⟨Eq.refl (1 : Int32), Eq.refl (1 : Int32), (g.1, g.2.1, g.2.2.1, upT g.2.2.2.1 a b true, g.2.2.2.2.1, g.2.2.2.2.2), st, true, ?_⟩
          dsimp only
          refine ⟨hg.touch a b true, ⟨hR, hC, rfl, ⟨_, w1, rfl, w2⟩, hq0, hq1, hold, hsh⟩, hst, rfl, ⟨?_, ?_, ?_, upd_s rfl⟩, touch_upd (v := true) (by decide) mT haP.1 (by omega) hbP.1 (by omega), mH, mO, fun q => absurd q (by decide), hs0, ((hL.told (by omega) _).touch (by omega) _).touch (by omega) _⟩
          · rw [upd_n (by omega)]; exact m4
          · rw [upd_n (by omega)]; exact m5
          · rw [upd_n (by omega)]; exact m6
      · apply tk_i
        · rw [if_neg (by decide)]
          unfold fX10_isGood_401 fX10_isGood_425
          simp only [i1, i2]
          rw [nI_clamp (by omega), nI_clamp (by omega), if_neg g1]
          simp only [jl_let_eq, q97_104, q97_109, q97_110, q97_114, q97_119, q97_120, q104_97, q104_109, q104_110, q104_114, q104_119, q104_120, q109_97, q109_104, q109_110, q109_114, q109_119, q109_120, q110_97, q110_104, q110_109, q110_114, q110_119, q110_120, q114_97, q114_104, q114_109, q114_110, q114_119, q114_120, q119_97, q119_104, q119_109, q119_110, q119_114, q119_120, q120_97, q120_104, q120_109, q120_110, q120_114, q120_119, ↓reduceIte]
          rw [if_neg g2]
        · rw [if_neg (show ¬ (if (120 : Int32) = 109 then (0 : Int32) else 1) = 0 by decide)]
          unfold fX4_takesPair_55
          rw [Option.bind_some, if_pos (Or.inr (Eq.refl (1 : Int32)))]
        · refine Or.inr ⟨Eq.refl (1 : Int32), Eq.refl (1 : Int32), (g.1, g.2.1, g.2.2.1, upT g.2.2.2.1 a b false, g.2.2.2.2.1, g.2.2.2.2.2), st, true, ?_⟩
          dsimp only
          refine ⟨hg.touch a b false, ⟨hR, hC, rfl, ⟨_, w3, rfl, w4⟩, hq0, hq1, hold, hsh⟩, hst, rfl, ⟨?_, ?_, ?_, upd_s rfl⟩, touch_upd (v := false) (by decide) mT haP.1 (by omega) hbP.1 (by omega), mH, mO, fun q => absurd q (by decide), hs0, ((hL.told (by omega) _).touch (by omega) _).touch (by omega) _⟩
          · rw [upd_n (by omega)]; exact m4
          · rw [upd_n (by omega)]; exact m5
          · rw [upd_n (by omega)]; exact m6
    · have fb : (decide (1 ≤ b) && decide (b ≤ pP g)) = false := by
        rw [Bool.and_eq_false_iff, decide_eq_false_iff_not, decide_eq_false_iff_not]; omega
      rw [fb]
      apply tk_i
      · rfl
      · rfl
      · exact Or.inl ⟨Eq.refl (0 : Int32), Eq.refl (0 : Int32), hL.told (by omega) _⟩
  · have fa : (decide (1 ≤ a) && decide (a ≤ pP g)) = false := by
      rw [Bool.and_eq_false_iff, decide_eq_false_iff_not, decide_eq_false_iff_not]; omega
    rw [fa]
    apply tk_i
    · rfl
    · rfl
    · exact Or.inl ⟨Eq.refl (0 : Int32), Eq.refl (0 : Int32), hL.told (by omega) _⟩
