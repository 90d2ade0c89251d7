/-! a plan being read: what both sides hold of it -/
theorem isP_nI {k P : Nat} (hk : k < 2 ^ 31) : isP (nI k) P = (decide (1 ≤ k) && decide (k ≤ P)) := by
  unfold isP; rw [nI_toInt hk]
  congr 1
  · apply decide_eq_decide.mpr; omega
  · apply decide_eq_decide.mpr; omega
abbrev JL : Type := JP × Int32 × (Nat → Int32)
theorem MR.told {g : JP} {s : Int32} {told touches has old beside : Nat → Int32} (h : MR g s told touches has old beside) {k : Nat} (hk : 3 ≤ k) (v : Int32) : MR g s (upd told k v) touches has old beside := by
  obtain ⟨h1, ⟨a1, a2, a3⟩, h3, h4, h5, h6⟩ := h
  exact ⟨h1, ⟨by rw [upd_n (by omega)]; exact a1, by rw [upd_n (by omega)]; exact a2, by rw [upd_n (by omega)]; exact a3⟩, h3, h4, h5, h6⟩
theorem MR.touch {g : JP} {s : Int32} {told touches has old beside : Nat → Int32} (h : MR g s told touches has old beside) {k : Nat} (hk : 16 ≤ k) (v : Int32) : MR g s told (upd touches k v) has old beside := by
  obtain ⟨h1, h2, h3, h4, h5, h6⟩ := h
  exact ⟨h1, h2, fun a b x y z w => by rw [upd_n (by omega)]; exact h3 a b x y z w, h4, h5, h6⟩
theorem MR.has {g : JP} {s : Int32} {told touches has old beside : Nat → Int32} (h : MR g s told touches has old beside) {k : Nat} (hk : 2 ≤ k) (v : Int32) : MR g s told touches (upd has k v) old beside := by
  obtain ⟨h1, h2, h3, h4, h5, h6⟩ := h
  exact ⟨h1, h2, h3, fun i hi => by rw [upd_n (by omega)]; exact h4 i hi, h5, h6⟩
theorem MR.old {g : JP} {s : Int32} {told touches has old beside : Nat → Int32} (h : MR g s told touches has old beside) {k : Nat} (hk : 9 ≤ k) (v : Int32) : MR g s told touches has (upd old k v) beside := by
  obtain ⟨h1, h2, h3, h4, h5, h6⟩ := h
  exact ⟨h1, h2, h3, h4, fun i hi => by rw [upd_n (by omega)]; exact h5 i hi, h6⟩
def DR (L : JL) (g : JP) (st pt : Bool) (stT ptT rows columns paints apart po0 po1 old shut : Int32) (told touches has old_ : Nat → Int32) : Prop :=
  GOK g ∧ XU g rows columns paints apart po0 po1 old shut ∧ stT = nI st.toNat ∧ ptT = nI pt.toNat ∧ (told 4 = nI (pR g) ∧ told 5 = nI (pC g) ∧ told 6 = nI (pP g) ∧ told 7 = nI (st.toNat + 2 * pt.toNat)) ∧ (∀ a b, 1 ≤ a → a ≤ 3 → 1 ≤ b → b ≤ 3 → touches (16 + (4 * a + b)) = nI (pT g a b).toNat) ∧ (∀ i, i < 2 → has (2 + i) = nI (nb 3 (fun j => pH g i (j + 1)))) ∧ (∀ s, s < 9 → old_ (9 + s) = nI (pO g s)) ∧ (pt = false → po0 = 7 ∧ po1 = 7 ∧ ∀ s, pO g s = 0 ∨ pO g s = 9) ∧ (st = false → ∀ s, pO g s = 0) ∧ MR L.1 L.2.1 told touches has old_ L.2.2
def TK (L : JL) (rx : Int32 × Int32 × Int32 × Int32 × Int32 × Int32 × Int32 × Int32 × Int32 × Int32 × Int32) (rm : Int32 × (Nat → Int32) × (Nat → Int32) × (Nat → Int32) × (Nat → Int32)) : Prop :=
  (rx.1 = 0 ∧ rm.1 = 0 ∧ MR L.1 L.2.1 rm.2.1 rm.2.2.1 rm.2.2.2.1 rm.2.2.2.2 L.2.2) ∨ (rx.1 = 1 ∧ rm.1 = 1 ∧ ∃ (g : JP) (st pt : Bool), DR L g st pt rx.2.1 rx.2.2.1 rx.2.2.2.1 rx.2.2.2.2.1 rx.2.2.2.2.2.1 rx.2.2.2.2.2.2.1 rx.2.2.2.2.2.2.2.1 rx.2.2.2.2.2.2.2.2.1 rx.2.2.2.2.2.2.2.2.2.1 rx.2.2.2.2.2.2.2.2.2.2 rm.2.1 rm.2.2.1 rm.2.2.2.1 rm.2.2.2.2)
theorem q97_104 : ((97 : Int32) = 104) = False := eq_false (by decide)
theorem q97_109 : ((97 : Int32) = 109) = False := eq_false (by decide)
theorem q97_110 : ((97 : Int32) = 110) = False := eq_false (by decide)
theorem q97_114 : ((97 : Int32) = 114) = False := eq_false (by decide)
theorem q97_119 : ((97 : Int32) = 119) = False := eq_false (by decide)
theorem q97_120 : ((97 : Int32) = 120) = False := eq_false (by decide)
theorem q104_97 : ((104 : Int32) = 97) = False := eq_false (by decide)
theorem q104_109 : ((104 : Int32) = 109) = False := eq_false (by decide)
theorem q104_110 : ((104 : Int32) = 110) = False := eq_false (by decide)
theorem q104_114 : ((104 : Int32) = 114) = False := eq_false (by decide)
theorem q104_119 : ((104 : Int32) = 119) = False := eq_false (by decide)
theorem q104_120 : ((104 : Int32) = 120) = False := eq_false (by decide)
theorem q109_97 : ((109 : Int32) = 97) = False := eq_false (by decide)
theorem q109_104 : ((109 : Int32) = 104) = False := eq_false (by decide)
theorem q109_110 : ((109 : Int32) = 110) = False := eq_false (by decide)
theorem q109_114 : ((109 : Int32) = 114) = False := eq_false (by decide)
theorem q109_119 : ((109 : Int32) = 119) = False := eq_false (by decide)
theorem q109_120 : ((109 : Int32) = 120) = False := eq_false (by decide)
theorem q110_97 : ((110 : Int32) = 97) = False := eq_false (by decide)
theorem q110_104 : ((110 : Int32) = 104) = False := eq_false (by decide)
theorem q110_109 : ((110 : Int32) = 109) = False := eq_false (by decide)
theorem q110_114 : ((110 : Int32) = 114) = False := eq_false (by decide)
theorem q110_119 : ((110 : Int32) = 119) = False := eq_false (by decide)
theorem q110_120 : ((110 : Int32) = 120) = False := eq_false (by decide)
theorem q114_97 : ((114 : Int32) = 97) = False := eq_false (by decide)
theorem q114_104 : ((114 : Int32) = 104) = False := eq_false (by decide)
theorem q114_109 : ((114 : Int32) = 109) = False := eq_false (by decide)
theorem q114_110 : ((114 : Int32) = 110) = False := eq_false (by decide)
theorem q114_119 : ((114 : Int32) = 119) = False := eq_false (by decide)
theorem q114_120 : ((114 : Int32) = 120) = False := eq_false (by decide)
theorem q119_97 : ((119 : Int32) = 97) = False := eq_false (by decide)
theorem q119_104 : ((119 : Int32) = 104) = False := eq_false (by decide)
theorem q119_109 : ((119 : Int32) = 109) = False := eq_false (by decide)
theorem q119_110 : ((119 : Int32) = 110) = False := eq_false (by decide)
theorem q119_114 : ((119 : Int32) = 114) = False := eq_false (by decide)
theorem q119_120 : ((119 : Int32) = 120) = False := eq_false (by decide)
theorem q120_97 : ((120 : Int32) = 97) = False := eq_false (by decide)
theorem q120_104 : ((120 : Int32) = 104) = False := eq_false (by decide)
theorem q120_109 : ((120 : Int32) = 109) = False := eq_false (by decide)
theorem q120_110 : ((120 : Int32) = 110) = False := eq_false (by decide)
theorem q120_114 : ((120 : Int32) = 114) = False := eq_false (by decide)
theorem q120_119 : ((120 : Int32) = 119) = False := eq_false (by decide)
theorem tk_i {L : JL} {X : Option (Int32 × Int32 × Int32 × Int32 × Int32 × Int32 × Int32 × Int32 × Int32 × Int32 × Int32)} {Y : Option (Int32 × (Nat → Int32) × (Nat → Int32) × (Nat → Int32) × (Nat → Int32))} {rx rm} (h2 : Y = some rm) (h1 : X = some rx) (h3 : TK L rx rm) : ∃ rx rm, X = some rx ∧ Y = some rm ∧ TK L rx rm := ⟨rx, rm, h1, h2, h3⟩
theorem t4 : ((4 : Int32)).toNatClampNeg = 4 := by decide
theorem t5 : ((5 : Int32)).toNatClampNeg = 5 := by decide
theorem t6 : ((6 : Int32)).toNatClampNeg = 6 := by decide
theorem t7 : ((7 : Int32)).toNatClampNeg = 7 := by decide
theorem t0 : ((0 : Int32)).toNatClampNeg = 0 := by decide
theorem t1 : ((1 : Int32)).toNatClampNeg = 1 := by decide
theorem t2 : ((2 : Int32)).toNatClampNeg = 2 := by decide
theorem t3 : ((3 : Int32)).toNatClampNeg = 3 := by decide
theorem or3 (st pt : Bool) : nI (st.toNat + 2 * pt.toNat) ||| (3 : Int32) = nI (true.toNat + 2 * true.toNat) := by cases st <;> cases pt <;> decide
theorem or1 (st pt : Bool) : nI (st.toNat + 2 * pt.toNat) ||| (1 : Int32) = nI (true.toNat + 2 * pt.toNat) := by cases st <;> cases pt <;> decide
theorem or2 (st pt : Bool) : nI (st.toNat + 2 * pt.toNat) ||| (2 : Int32) = nI (st.toNat + 2 * true.toNat) := by cases st <;> cases pt <;> decide
theorem an1 (st pt : Bool) : nI (st.toNat + 2 * pt.toNat) &&& (1 : Int32) = nI st.toNat := by cases st <;> cases pt <;> decide
theorem an2 (st pt : Bool) : nI (st.toNat + 2 * pt.toNat) &&& (2 : Int32) = nI (2 * pt.toNat) := by cases st <;> cases pt <;> decide
theorem in1 {b P : Nat} (hb : b < 2 ^ 31) (hP : P ≤ 3) : fX10_in (nI b).toInt64 (1 : Int64) ((nI P).toInt64) = some (nI (decide (1 ≤ b) && decide (b ≤ P)).toNat) := by
  rw [nI_l (n := P) (by omega), in_ok, i2l_toInt, L_toInt (by omega), show (1 : Int64).toInt = 1 by decide]
  have := isP_nI (k := b) (P := P) hb
  unfold isP at this
  rw [this]
theorem pw9 {a : Nat} (ha : a < 9) : 2 ^ a < 2 ^ 9 := Nat.pow_lt_pow_right (by omega) ha
theorem one_shl {a : Nat} (ha : a < 32) : (1 : Int32) <<< (nI a &&& (31 : Int32)) = nI (2 ^ a) := by
  have := ni_shl 1 ha
  rw [Nat.one_mul] at this; exact this
theorem worn_set {c : Nat → Nat} {s p : Nat} (hs : s < 9) (h1 : 1 ≤ p) (h3 : p ≤ 3) : nbp (fun t q => decide (c t = q) && !(2 ^ s).testBit t) ||| 2 ^ (9 * (p - 1) + s) = wornS (upc c s p) := by
  rw [← nbp_one hs h1 h3, nbp_or]
  unfold wornS
  refine nbp_cong (fun t q ht q1 q3 => ?_)
  unfold upc
  apply Bool.eq_iff_iff.mpr
  simp only [Bool.or_eq_true, Bool.and_eq_true, decide_eq_true_eq, Bool.not_eq_true', Nat.testBit_two_pow, decide_eq_false_iff_not]
  by_cases e : t = s
  · subst e; simp only [if_true, true_and, not_true, and_false, false_or]; omega
  · have e' : ¬ s = t := fun q => e q.symm
    rw [if_neg e]; simp only [e, e', false_and, or_false, not_false_eq_true, and_true]
theorem shut_set {c : Nat → Nat} {s p : Nat} (hp : p ≠ 9) (hs : s < 9) : adn (nb 9 (fun t => decide (c t = 9))) (2 ^ s) = nb 9 (fun t => decide (upc c s p t = 9)) := by
  rw [← nb_one hs, nb_adn (by omega)]
  refine nb_cong (fun t ht => ?_)
  unfold upc
  apply Bool.eq_iff_iff.mpr
  simp only [Bool.and_eq_true, decide_eq_true_eq, Bool.not_eq_true', ht, decide_true, Bool.true_and, decide_eq_false_iff_not]
  by_cases e : t = s
  · simp only [e, not_true, and_false, if_true, hp]
  · simp only [e, not_false_eq_true, and_true, if_false]
theorem worn_shut {c : Nat → Nat} {s : Nat} : nbp (fun t q => decide (c t = q) && !(2 ^ s).testBit t) = wornS (upc c s 9) := by
  unfold wornS
  refine nbp_cong (fun t q ht q1 q3 => ?_)
  unfold upc
  apply Bool.eq_iff_iff.mpr
  simp only [Bool.and_eq_true, decide_eq_true_eq, Bool.not_eq_true', Nat.testBit_two_pow, decide_eq_false_iff_not]
  by_cases e : t = s
  · subst e; simp only [if_true, not_true, and_false, false_iff]; omega
  · have e' : ¬ s = t := fun q => e q.symm
    rw [if_neg e]; simp only [e', not_false_eq_true, and_true]
theorem shut_shut {c : Nat → Nat} {s : Nat} (hs : s < 9) : nb 9 (fun t => decide (c t = 9)) ||| 2 ^ s = nb 9 (fun t => decide (upc c s 9 t = 9)) := by
  rw [← nb_one hs, nb_or]
  refine nb_cong (fun t ht => ?_)
  unfold upc
  apply Bool.eq_iff_iff.mpr
  simp only [Bool.or_eq_true, decide_eq_true_eq]
  by_cases e : t = s
  · simp only [e, or_true, if_true]
  · simp only [e, or_false, if_false]
/-- a plan with the old colours changed at one stone -/
theorem GOK.old {g : JP} (hg : GOK g) {s p : Nat} (hs : s < pn g) (hp : p ≤ pP g ∨ p = 9) : GOK (g.1, g.2.1, g.2.2.1, g.2.2.2.1, g.2.2.2.2.1, upc g.2.2.2.2.2 s p) := by
  obtain ⟨h1, h2, h3, h4, h5, h6, h7, h8, h9⟩ := hg
  refine ⟨h1, h2, h3, h4, h5, h6, h7, fun t => ?_, fun t ht => ?_⟩
  · show upc (pO g) s p t ≤ pP g ∨ upc (pO g) s p t = 9
    unfold upc; by_cases e : t = s
    · rw [if_pos e]; exact hp
    · rw [if_neg e]; exact h8 t
  · show upc (pO g) s p t = 0
    have ht : pn g ≤ t := ht
    unfold upc; rw [if_neg (by omega)]; exact h9 t ht
theorem takes_97 {L : JL} {g : JP} {st pt : Bool} {stT ptT rows columns paints apart po0 po1 old shut : Int32} {told touches has old_ got : Nat → Int32} (h : DR L g st pt stT ptT rows columns paints apart po0 po1 old shut told touches has old_) {a b : Nat} (ha : a ≤ 99) (hb : b ≤ 99) (e0 : got 0 = nI a) (e1 : got 1 = nI b) :
    ∃ rx rm, fX4_takes (nI a) (nI b) stT ptT rows columns paints apart po0 po1 old shut 97 = some rx ∧ fX10_isGood told touches has old_ got 97 = some rm ∧ TK L rx rm := by
  obtain ⟨hg, ⟨hR, hC, hP, hap, hq0, hq1, hold, hsh⟩, hst, hpt, ⟨m4, m5, m6, m7⟩, mT, mH, mO, hp0, hs0, hL⟩ := h
  obtain ⟨hn1, hn9, hR9, hC9⟩ := gn hg
  have hP3 := hg.2.2.2.2.1
  have hRC : pR g * pC g ≤ 9 := hn9
  unfold fX4_takes fX4_takesOld fX10_isGood
  simp only [q97_104, q97_109, q97_110, q97_114, q97_119, q97_120, q104_97, q104_109, q104_110, q104_114, q104_119, q104_120, q109_97, q109_104, q109_110, q109_114, q109_119, q109_120, q110_97, q110_104, q110_109, q110_114, q110_119, q110_120, q114_97, q114_104, q114_109, q114_110, q114_119, q114_120, q119_97, q119_104, q119_109, q119_110, q119_114, q119_120, q120_97, q120_104, q120_109, q120_110, q120_114, q120_119, ↓reduceIte]
  rw [hR, hC, hP, x_hasStone hRC hR9 hC9, x_hasPaint hP3, isN_nI (by omega), isP_nI (by omega)]
  simp only [jl_let_eq, t0, t1, t4, t5, t6, t7, e0, e1, m7, or3, Option.bind_some]
  rw [upd_n (by omega), upd_n (by omega), upd_n (by omega), m4, m5, m6, pk_mul, in1 (by omega) hP3]
  by_cases han : a < pn g
  · have han' : a < pR g * pC g := han
    by_cases hbP : 1 ≤ b ∧ b ≤ pP g
    · have f1 : decide (1 ≤ b) = true := decide_eq_true hbP.1
      have f2 : decide (b ≤ pP g) = true := decide_eq_true hbP.2
      have f3 : decide (a < pR g * pC g) = true := decide_eq_true han'
      simp only [f1, f2, f3, Bool.and_self]
      apply tk_i
      · rw [if_neg (by rw [nI_leI (by omega) (by omega)]; omega)]
        rw [Option.bind_some, if_neg (by decide), (show (9 : Int32) = nI 9 from rfl), nI_add, nI_clamp (by omega), if_neg (by
          rintro (q | q)
          · exact nI_pos (by omega) q
          · omega)]
      · rw [if_neg (by decide), if_neg (by decide)]
        unfold fX3_setOld
        rw [hold, one_shl (by omega)]
        unfold wornS
        rw [x_withoutPaint (pw9 (by omega)), Option.bind_some, x_painting (by omega) hbP.1 (by omega)]
        simp only [Option.bind_some, jl_let_eq]
        rw [hsh, ni_or, show (-1 : Int32) = -nI 1 from rfl, ni_adn, if_pos (Or.inr trivial)]
      · refine Or.inr ⟨Eq.refl (1 : Int32), Eq.refl (1 : Int32), (g.1, g.2.1, g.2.2.1, g.2.2.2.1, g.2.2.2.2.1, upc g.2.2.2.2.2 a b), true, true, ?_⟩
        dsimp only
        refine ⟨hg.old han (Or.inl hbP.2), ⟨rfl, rfl, rfl, hap, hq0, hq1, ?_, ?_⟩, rfl, rfl, ⟨?_, ?_, ?_, upd_s rfl⟩, mT, mH, ?_, fun q => absurd q (by decide), fun q => absurd q (by decide), (hL.told (by omega) _).old (by omega) _⟩
        · skip
          rw [worn_set (by omega) hbP.1 (by omega)]; rfl
        · skip
          rw [shut_set (p := b) (by omega) (by omega)]; rfl
        · rw [upd_n (by omega)]; exact m4
        · rw [upd_n (by omega)]; exact m5
        · rw [upd_n (by omega)]; exact m6
        · intro s hs
          show _ = nI (upc (pO g) a b s)
          unfold upc
          by_cases e : s = a
          · rw [upd_s (by omega), if_pos e]
          · rw [upd_n (by omega), if_neg e]; exact mO s hs
    · have f : (decide (1 ≤ b) && decide (b ≤ pP g)) = false := by
        rw [Bool.and_eq_false_iff, decide_eq_false_iff_not, decide_eq_false_iff_not]; omega
      rw [f]
      have f3 : decide (a < pR g * pC g) = true := decide_eq_true han'
      simp only [f3]
      apply tk_i
      · rw [if_neg (by rw [nI_leI (by omega) (by omega)]; omega), Option.bind_some, if_pos (by decide)]
      · rfl
      · exact Or.inl ⟨Eq.refl (0 : Int32), Eq.refl (0 : Int32), hL.told (by omega) _⟩
  · have han' : ¬ a < pR g * pC g := han
    have f3 : decide (a < pR g * pC g) = false := decide_eq_false han'
    simp only [f3]
    apply tk_i
    · rw [if_pos (by rw [nI_leI (by omega) (by omega)]; omega)]
    · rfl
    · exact Or.inl ⟨Eq.refl (0 : Int32), Eq.refl (0 : Int32), hL.told (by omega) _⟩
theorem takes_119 {L : JL} {g : JP} {st pt : Bool} {stT ptT rows columns paints apart po0 po1 old shut second : Int32} {told touches has old_ got : Nat → Int32} (h : DR L g st pt stT ptT rows columns paints apart po0 po1 old shut told touches has old_) {a : Nat} (ha : a ≤ 99) (e0 : got 0 = nI a) :
    ∃ rx rm, fX4_takes (nI a) second stT ptT rows columns paints apart po0 po1 old shut 119 = some rx ∧ fX10_isGood told touches has old_ got 119 = some rm ∧ TK L rx rm := by
  obtain ⟨hg, ⟨hR, hC, hP, hap, hq0, hq1, hold, hsh⟩, hst, hpt, ⟨m4, m5, m6, m7⟩, mT, mH, mO, hp0, hs0, hL⟩ := h
  obtain ⟨hn1, hn9, hR9, hC9⟩ := gn hg
  have hRC : pR g * pC g ≤ 9 := hn9
  unfold fX4_takes fX4_takesShut fX10_isGood
  simp only [q97_104, q97_109, q97_110, q97_114, q97_119, q97_120, q104_97, q104_109, q104_110, q104_114, q104_119, q104_120, q109_97, q109_104, q109_110, q109_114, q109_119, q109_120, q110_97, q110_104, q110_109, q110_114, q110_119, q110_120, q114_97, q114_104, q114_109, q114_110, q114_119, q114_120, q119_97, q119_104, q119_109, q119_110, q119_114, q119_120, q120_97, q120_104, q120_109, q120_110, q120_114, q120_119, ↓reduceIte]
  rw [hR, hC, x_hasStone hRC hR9 hC9, isN_nI (by omega)]
  simp only [jl_let_eq, t0, t1, t4, t5, t6, t7, e0, m7, or1, Option.bind_some]
  rw [upd_n (by omega), upd_n (by omega), m4, m5, pk_mul]
  by_cases han : a < pn g
  · have han' : a < pR g * pC g := han
    have f3 : decide (a < pR g * pC g) = true := decide_eq_true han'
    simp only [f3]
    apply tk_i
    · rw [if_pos (by rw [nI_ltI (by omega) (by omega)]; omega), (show (9 : Int32) = nI 9 from rfl), nI_add, nI_clamp (by omega), if_neg (by
        rintro (q | q)
        · exact nI_pos (by omega) q
        · omega)]
    · rw [if_neg (by decide)]
      unfold fX3_setShut
      rw [hold, one_shl (by omega)]
      unfold wornS
      rw [x_withoutPaint (pw9 (by omega)), Option.bind_some]
      simp only [Option.bind_some, jl_let_eq]
      rw [hsh, ni_or, if_pos (Or.inr trivial)]
    · refine Or.inr ⟨Eq.refl (1 : Int32), Eq.refl (1 : Int32), (g.1, g.2.1, g.2.2.1, g.2.2.2.1, g.2.2.2.2.1, upc g.2.2.2.2.2 a 9), true, pt, ?_⟩
      dsimp only
      refine ⟨hg.old han (Or.inr rfl), ⟨rfl, rfl, hP, hap, hq0, hq1, ?_, ?_⟩, rfl, hpt, ⟨?_, ?_, ?_, upd_s rfl⟩, mT, mH, ?_, ?_, fun q => absurd q (by decide), (hL.told (by omega) _).old (by omega) _⟩
      · skip
        rw [worn_shut]; rfl
      · skip
        rw [shut_shut (by omega)]; rfl
      · rw [upd_n (by omega)]; exact m4
      · rw [upd_n (by omega)]; exact m5
      · rw [upd_n (by omega)]; exact m6
      · intro s hs
        show _ = nI (upc (pO g) a 9 s)
        unfold upc
        by_cases e : s = a
        · rw [upd_s (by omega), if_pos e]
        · rw [upd_n (by omega), if_neg e]; exact mO s hs
      · intro q
        obtain ⟨u1, u2, u3⟩ := hp0 q
        refine ⟨u1, u2, fun s => ?_⟩
        show upc (pO g) a 9 s = 0 ∨ upc (pO g) a 9 s = 9
        unfold upc
        by_cases e : s = a
        · rw [if_pos e]; exact Or.inr rfl
        · rw [if_neg e]; exact u3 s
  · have han' : ¬ a < pR g * pC g := han
    have f3 : decide (a < pR g * pC g) = false := decide_eq_false han'
    simp only [f3]
    apply tk_i
    · rw [if_neg (by rw [nI_ltI (by omega) (by omega)]; omega)]
    · rfl
    · exact Or.inl ⟨Eq.refl (0 : Int32), Eq.refl (0 : Int32), hL.told (by omega) _⟩
theorem takes_110 {L : JL} {g : JP} {st pt : Bool} {stT ptT rows columns paints apart po0 po1 old shut second : Int32} {told touches has old_ got : Nat → Int32} (h : DR L g st pt stT ptT rows columns paints apart po0 po1 old shut told touches has old_) {a : Nat} (ha : a ≤ 99) (e0 : got 0 = nI a) :
    ∃ rx rm, fX4_takes (nI a) second stT ptT rows columns paints apart po0 po1 old shut 110 = some rx ∧ fX10_isGood told touches has old_ got 110 = some rm ∧ TK L rx rm := by
  obtain ⟨hg, ⟨hR, hC, hP, hap, hq0, hq1, hold, hsh⟩, hst, hpt, ⟨m4, m5, m6, m7⟩, mT, mH, mO, hp0, hs0, hL⟩ := h
  unfold fX4_takes fX4_takesPaints fX10_isGood
  simp only [q97_104, q97_109, q97_110, q97_114, q97_119, q97_120, q104_97, q104_109, q104_110, q104_114, q104_119, q104_120, q109_97, q109_104, q109_110, q109_114, q109_119, q109_120, q110_97, q110_104, q110_109, q110_114, q110_119, q110_120, q114_97, q114_104, q114_109, q114_110, q114_119, q114_120, q119_97, q119_104, q119_109, q119_110, q119_114, q119_120, q120_97, q120_104, q120_109, q120_110, q120_114, q120_119, ↓reduceIte]
  simp only [jl_let_eq, t0, t1, t2, t3, t4, t5, t6, t7, e0, Option.bind_some]
  have e3 : (3 : Int64) = (nI 3).toInt64 := by decide
  rw [upd_n (show (7 : Nat) ≠ 6 by omega), m7, an2, hpt, e3, in1 (by omega) (by omega)]
  cases pt
  · by_cases ha3 : 1 ≤ a ∧ a ≤ 3
    · have f1 : decide (1 ≤ a) = true := decide_eq_true ha3.1
      have f2 : decide (a ≤ 3) = true := decide_eq_true ha3.2
      rw [f1, f2]
      apply tk_i
      · rw [Option.bind_some, if_neg (by decide), if_pos (by decide)]
      · rw [if_pos (by decide), if_neg (by rw [(show (1 : Int32) = nI 1 from rfl), nI_ltI (by omega) (by omega)]; omega), if_pos (by rw [(show (3 : Int32) = nI 3 from rfl), nI_leI (by omega) (by omega)]; omega)]
        rfl
      · obtain ⟨u0, u1, u9⟩ := hp0 rfl
        refine Or.inr ⟨Eq.refl (1 : Int32), Eq.refl (1 : Int32), (g.1, g.2.1, a, g.2.2.2.1, fun _ p => decide (1 ≤ p) && decide (p ≤ a), g.2.2.2.2.2), st, false, ?_⟩
        obtain ⟨h1, h2, h3, h4, h5, h6, h7, h8, h9⟩ := hg
        have hH : ∀ q, q = 7 → ∀ p, 1 ≤ p → p ≤ 3 → (Nat.testBit q (p - 1) && decide (p ≤ a)) = (decide (1 ≤ p) && decide (p ≤ a)) := by
          intro q hq p p1 p3
          have : Nat.testBit q (p - 1) = true := by
            subst hq
            rcases (show p = 1 ∨ p = 2 ∨ p = 3 by omega) with h | h | h <;> subst h <;> decide
          rw [this, decide_eq_true p1]
        have hhas : nI 1 <<< (nI a &&& nI 31) - 1 = nI (nb 3 (fun j => decide (1 ≤ j + 1) && decide (j + 1 ≤ a))) := by
          rcases (show a = 1 ∨ a = 2 ∨ a = 3 by omega) with h | h | h <;> subst h <;> decide
        have hmod : nI a - nI a / 4 * 4 = nI a := by
          have := pk_rem (a := a) (d := 4) (by omega) (by omega) (by omega)
          rw [Nat.mod_eq_of_lt (by omega)] at this
          exact this
        dsimp only
        refine ⟨⟨h1, h2, h3, ha3.1, ha3.2, h6, fun i p hp => ?_, fun s => ?_, h9⟩, ⟨hR, hC, rfl, hap, ⟨7, by omega, u0, hH 7 rfl⟩, ⟨7, by omega, u1, hH 7 rfl⟩, hold, hsh⟩, hst, rfl, ⟨?_, ?_, upd_s rfl, ?_⟩, mT, ?_, mO, fun _ => ⟨u0, u1, u9⟩, hs0, ((hL.told (by omega) _).has (by omega) _).has (by omega) _⟩
        · have hp : (decide (1 ≤ p) && decide (p ≤ a)) = true := hp
          rw [Bool.and_eq_true, decide_eq_true_eq, decide_eq_true_eq] at hp
          exact hp
        · show pO g s ≤ a ∨ pO g s = 9
          rcases u9 s with h | h
          · exact Or.inl (by omega)
          · exact Or.inr h
        · rw [upd_n (by omega)]; exact m4
        · rw [upd_n (by omega)]; exact m5
        · rw [upd_n (by omega)]; exact m7
        · intro i hi
          show _ = nI (nb 3 (fun j => decide (1 ≤ j + 1) && decide (j + 1 ≤ a)))
          rw [hmod]
          rcases (show i = 0 ∨ i = 1 by omega) with h | h
          · rw [upd_n (by omega), upd_s (by omega)]; exact hhas
          · rw [upd_s (by omega), upd_s (by omega)]; exact hhas
    · have f : (decide (1 ≤ a) && decide (a ≤ 3)) = false := by
        rw [Bool.and_eq_false_iff, decide_eq_false_iff_not, decide_eq_false_iff_not]; omega
      rw [f]
      apply tk_i
      · rw [Option.bind_some, if_pos (by decide)]
      · rw [if_pos (by decide)]
        by_cases a0 : a < 1
        · rw [if_pos (by rw [(show (1 : Int32) = nI 1 from rfl), nI_ltI (by omega) (by omega)]; omega)]; rfl
        · rw [if_neg (by rw [(show (1 : Int32) = nI 1 from rfl), nI_ltI (by omega) (by omega)]; omega), if_neg (by rw [(show (3 : Int32) = nI 3 from rfl), nI_leI (by omega) (by omega)]; omega)]; rfl
      · exact Or.inl ⟨Eq.refl (0 : Int32), Eq.refl (0 : Int32), ((hL.told (by omega) _).has (by omega) _).has (by omega) _⟩
  · rw [Option.bind_some, if_neg (show ¬ nI (2 * true.toNat) = 0 by decide)]
    apply tk_i
    · exact ite_self _
    · rw [if_neg (by decide)]; rfl
    · exact Or.inl ⟨Eq.refl (0 : Int32), Eq.refl (0 : Int32), ((hL.told (by omega) _).has (by omega) _).has (by omega) _⟩
theorem takes_114 {L : JL} {g : JP} {st pt : Bool} {stT ptT rows columns paints apart po0 po1 old shut : Int32} {told touches has old_ got : Nat → Int32} (h : DR L g st pt stT ptT rows columns paints apart po0 po1 old shut told touches has old_) {a b : Nat} (ha : a ≤ 99) (hb : b ≤ 99) (e0 : got 0 = nI a) (e1 : got 1 = nI b) :
    ∃ rx rm, fX4_takes (nI a) (nI b) stT ptT rows columns paints apart po0 po1 old shut 114 = some rx ∧ fX10_isGood told touches has old_ got 114 = some rm ∧ TK L rx rm := by
  obtain ⟨hg, ⟨hR, hC, hP, hap, hq0, hq1, hold, hsh⟩, hst, hpt, ⟨m4, m5, m6, m7⟩, mT, mH, mO, hp0, hs0, hL⟩ := h
  unfold fX4_takes fX4_takesShape fX10_isGood
  simp only [q97_104, q97_109, q97_110, q97_114, q97_119, q97_120, q104_97, q104_109, q104_110, q104_114, q104_119, q104_120, q109_97, q109_104, q109_110, q109_114, q109_119, q109_120, q110_97, q110_104, q110_109, q110_114, q110_119, q110_120, q114_97, q114_104, q114_109, q114_110, q114_119, q114_120, q119_97, q119_104, q119_109, q119_110, q119_114, q119_120, q120_97, q120_104, q120_109, q120_110, q120_114, q120_119, ↓reduceIte]
  simp only [jl_let_eq, t0, t1, t2, t3, t4, t5, t6, t7, e0, e1, Option.bind_some]
  rw [upd_n (show (7 : Nat) ≠ 5 by omega), upd_n (show (7 : Nat) ≠ 4 by omega), m7, an1, hst, pk_mul]
  have hab : a * b ≤ 99 * 99 := Nat.mul_le_mul ha hb
  have c1 : (nI a < 1) = (a < 1) := ni_lt (b := 1) (by omega) (by omega)
  have c2 : (nI b < 1) = (b < 1) := ni_lt (b := 1) (by omega) (by omega)
  have c3 : (nI a ≤ 0) = (a ≤ 0) := ni_le (b := 0) (by omega) (by omega)
  have c4 : (nI b ≤ 0) = (b ≤ 0) := ni_le (b := 0) (by omega) (by omega)
  have c5 : ((10 : Int32) ≤ nI a) = (10 ≤ a) := ni_le (a := 10) (by omega) (by omega)
  have c6 : ((10 : Int32) ≤ nI b) = (10 ≤ b) := ni_le (a := 10) (by omega) (by omega)
  have c7 : ((10 : Int32) ≤ nI (a * b)) = (10 ≤ a * b) := ni_le (a := 10) (by omega) (by omega)
  have c8 : (nI (a * b) ≤ 9) = (a * b ≤ 9) := ni_le (b := 9) (by omega) (by omega)
  simp only [c1, c2, c3, c4, c5, c6, c7, c8]
  cases st
  · by_cases hok : 1 ≤ a ∧ 1 ≤ b ∧ a * b ≤ 9
    · obtain ⟨a1, b1, ab9⟩ := hok
      have a9 : a ≤ 9 := Nat.le_trans (Nat.le_mul_of_pos_right a b1) ab9
      have b9 : b ≤ 9 := Nat.le_trans (Nat.le_mul_of_pos_left b a1) ab9
      apply tk_i
      · rw [if_neg (by omega), if_neg (by omega), if_neg (by omega), if_neg (by omega), if_neg (by omega), if_pos (by decide)]
      · rw [if_pos (by decide), if_neg (by omega), if_neg (by omega), if_pos (by omega)]; rfl
      · refine Or.inr ⟨Eq.refl (1 : Int32), Eq.refl (1 : Int32), (a, b, g.2.2.1, g.2.2.2.1, g.2.2.2.2.1, g.2.2.2.2.2), false, pt, ?_⟩
        obtain ⟨h1, h2, h3, h4, h5, h6, h7, h8, h9⟩ := hg
        have hz := hs0 rfl
        dsimp only
        refine ⟨⟨a1, b1, ab9, h4, h5, h6, h7, h8, fun s _ => hz s⟩, ⟨rfl, rfl, hP, hap, hq0, hq1, hold, hsh⟩, rfl, hpt, ⟨?_, upd_s rfl, ?_, ?_⟩, mT, mH, mO, hp0, hs0, (hL.told (by omega) _).told (by omega) _⟩
        · rw [upd_n (by omega), upd_s rfl]; rfl
        · rw [upd_n (by omega), upd_n (by omega)]; exact m6
        · rw [upd_n (by omega), upd_n (by omega)]; exact m7
    · refine tk_i (rm := (0, upd (upd told 4 (nI a)) 5 (nI b), touches, has, old_)) (rx := (0, nI false.toNat, ptT, rows, columns, paints, apart, po0, po1, old, shut)) ?_ ?_ (Or.inl ⟨Eq.refl (0 : Int32), Eq.refl (0 : Int32), (hL.told (by omega) _).told (by omega) _⟩)
      · by_cases x1 : a ≤ 0
        · rw [if_pos x1]
        rw [if_neg x1]
        by_cases x2 : b ≤ 0
        · rw [if_pos x2]
        rw [if_neg x2]
        by_cases x3 : 10 ≤ a
        · rw [if_pos x3]
        rw [if_neg x3]
        by_cases x4 : 10 ≤ b
        · rw [if_pos x4]
        rw [if_neg x4, if_pos (by omega)]
      · rw [if_pos (by decide)]
        by_cases x1 : a < 1
        · rw [if_pos x1]; rfl
        rw [if_neg x1]
        by_cases x2 : b < 1
        · rw [if_pos x2]; rfl
        rw [if_neg x2, if_neg (by omega)]; rfl
  · refine tk_i (rm := (0, upd (upd told 4 (nI a)) 5 (nI b), touches, has, old_)) (rx := (0, nI true.toNat, ptT, rows, columns, paints, apart, po0, po1, old, shut)) ?_ ?_ (Or.inl ⟨Eq.refl (0 : Int32), Eq.refl (0 : Int32), (hL.told (by omega) _).told (by omega) _⟩)
    · rw [if_neg (show ¬ nI true.toNat = 0 by decide)]
      simp only [ite_self]
    · rw [if_neg (by decide)]; rfl
