/-! settling a plan; old stones that clash -/
theorem x_paintsOf {g : JP} (hg : GOK g) {rows columns paints apart po0 po1 old shut : Int32} (hX : XU g rows columns paints apart po0 po1 old shut) {w : Nat} (hw : w ≤ 1) : fX3_paintsOf paints po0 po1 (nI w) = some (nI (nb 3 (fun j => pH g w (j + 1)))) := by
  obtain ⟨-, -, rfl, -, ⟨q0, h0, rfl, hb0⟩, ⟨q1, h1, rfl, hb1⟩, -⟩ := hX
  have hP := hg.2.2.2.2.1
  unfold fX3_paintsOf fX3_paintsOf_15
  have key : ∀ q i, q < 8 → (∀ p, 1 ≤ p → p ≤ 3 → (q.testBit (p - 1) && decide (p ≤ pP g)) = pH g i p) → ((fX3_allPaints (nI (pP g))).bind fun r3 => some (nI q &&& r3)) = some (nI (nb 3 (fun j => pH g i (j + 1)))) := by
    intro q i hq hb
    rw [x_allPaints hP, Option.bind_some, ni_and]
    refine congrArg (fun z => some (nI z)) (nb_ext (Nat.lt_of_le_of_lt Nat.and_le_left hq) (fun j hj => ?_))
    rw [Nat.testBit_and, Nat.testBit_two_pow_sub_one, ← hb (j + 1) (by omega) (by omega), show j + 1 - 1 = j by omega]
    congr 1
  rcases (show w = 0 ∨ w = 1 by omega) with rfl | rfl
  · exact key q0 0 h0 hb0
  · exact key q1 1 h1 hb1
set_option maxHeartbeats 4000000 in
theorem x_settle {g : JP} (hg : GOK g) {rows columns paints apart po0 po1 old shut : Int32} (hX : XU g rows columns paints apart po0 po1 old shut) {F : Nat} (hF : 29 ≤ F) (al0 fc0 ft0 p00 p10 : Int32) (ro0 : Nat → Int32) : ∃ (al fc ft p0 p1 : Int32) (ro : Nat → Int32), fX3_settle F rows columns paints apart po0 po1 shut al0 fc0 ft0 p00 p10 ro0 = some (al, fc, ft, p0, p1, ro) ∧ XS g al fc ft p0 p1 ro := by
  have hn := hg.2.2.1
  have hP := hg.2.2.2.2.1
  have hR : pR g ≤ 9 := Nat.le_trans (Nat.le_mul_of_pos_right _ hg.2.1) hn
  have hC : pC g ≤ 9 := Nat.le_trans (Nat.le_mul_of_pos_left _ hg.1) hn
  let rr : Nat → Int32 := fun i => (fX3_ruledOutBy F columns apart (nI (2 ^ pn g - 1)) (nI (fcN (pR g) (pC g))) (nI (i % 9)) (nI (i / 9 + 1))).getD 0
  have hrr : ∀ i, i < 27 → fX3_ruledOutBy F columns apart (nI (2 ^ pn g - 1)) (nI (fcN (pR g) (pC g))) (nI (i % 9)) (nI (i / 9 + 1)) = some (rr i) ∧ (i % 9 < pn g → rr i = nI (rulS g (i % 9) (i / 9 + 1))) := by
    intro i hi
    obtain ⟨r, h1, h2⟩ := x_ruledOutBy hg hX (s := i % 9) (p := i / 9 + 1) (F := F) (by omega) (by omega) (by omega) (by omega)
    have : rr i = r := by show (fX3_ruledOutBy F columns apart _ _ _ _).getD 0 = r; rw [h1]; rfl
    rw [this]; exact ⟨h1, h2⟩
  have hfin : fX3_settle_56 F rows columns paints apart po0 po1 shut (nI (2 ^ pn g - 1)) (nI (fcN (pR g) (pC g))) ft0 p00 p10 ro0 = some (nI (2 ^ pn g - 1), nI (fcN (pR g) (pC g)), nI (nbp (fun s p => decide (s < pn g) && (!decide (pO g s = 9) && decide (p ≤ pP g)))), nI (canS g 0), nI (canS g 1), fun i => if i < 27 then rr i else ro0 i) := by
    unfold fX3_settle_56
    have hT : nI (2 ^ pn g - 1) &&& (shut ^^^ (-1)) = nI (nb 9 (fun s => decide (s < pn g) && !decide (pO g s = 9))) := by
      rw [hX.2.2.2.2.2.2.2, ni_m1, ni_adn]
      have hall : 2 ^ pn g - 1 < 2 ^ 9 := by
        have := Nat.pow_le_pow_right (n := 2) (by omega) hn
        omega
      refine congrArg nI (nb_ext (Nat.lt_of_le_of_lt Nat.and_le_left hall) (fun i hi => ?_))
      rw [adn_tb (by omega), tb_all, nb_tb]
      simp [hi]
    have hP2 : 2 ^ pP g - 1 < 8 := by
      have := Nat.pow_le_pow_right (n := 2) (by omega) hP
      omega
    have f1 : fX3_inPaints F (nI (nb 9 (fun s => decide (s < pn g) && !decide (pO g s = 9)))) (nI (2 ^ pP g - 1)) = some (nI (nbp (fun s p => decide (s < pn g) && (!decide (pO g s = 9) && decide (p ≤ pP g))))) := by
      rw [x_inPaints (nb_lt 9 _) hP2 (by omega)]
      refine congrArg (fun z => some (nI z)) (nbp_cong (fun s p hs h1 h3 => ?_))
      rw [nb_tb, tb_all, Bool.and_assoc]
      simp only [hs, decide_true, Bool.true_and, Bool.and_assoc]
      congr 2
      exact decide_eq_decide.mpr (by omega)
    have f2 : ∀ w, fX3_inPaints F (nI (nb 9 (fun s => decide (s < pn g) && !decide (pO g s = 9)))) (nI (nb 3 (fun j => pH g w (j + 1)))) = some (nI (canS g w)) := by
      intro w
      rw [x_inPaints (nb_lt 9 _) (nb_lt 3 _) (by omega)]
      refine congrArg (fun z => some (nI z)) (nbp_cong (fun s p hs h1 h3 => ?_))
      rw [nb_tb, nb_tb, show p - 1 + 1 = p by omega]
      have : p - 1 < 3 := by omega
      simp only [hs, this, decide_true, Bool.true_and, Bool.and_assoc]
    have g0 : fX3_paintsOf paints po0 po1 (0 : Int32) = _ := x_paintsOf hg hX (w := 0) (by omega)
    have g1 : fX3_paintsOf paints po0 po1 (1 : Int32) = _ := x_paintsOf hg hX (w := 1) (by omega)
    have g2 : fX3_allPaints paints = some (nI (2 ^ pP g - 1)) := by rw [hX.2.2.1]; exact x_allPaints hP
    simp only [jl_let_eq, hT, g2, Option.bind_some, f1, g0, f2, g1]
    unfold lX3_settle_108
    refine jl_run7 (fun d x a b c e h ro => ∃ t, x = nI t ∧ t + d = 27 ∧ a = nI (2 ^ pn g - 1) ∧ b = nI (fcN (pR g) (pC g)) ∧ c = nI (nbp (fun s p => decide (s < pn g) && (!decide (pO g s = 9) && decide (p ≤ pP g)))) ∧ e = nI (canS g 0) ∧ h = nI (canS g 1) ∧ ro = fun i => if i < t then rr i else ro0 i) ?_ F 27 _ _ _ _ _ _ _ ⟨0, rfl, rfl, rfl, rfl, rfl, rfl, rfl, by funext i; simp⟩ (by omega)
    rintro d x a b c e h ro ⟨t, rfl, hd, rfl, rfl, rfl, rfl, rfl, rfl⟩
    rcases Nat.eq_zero_or_pos d with h0 | h0
    · left; intro k
      have : t = 27 := by omega
      subst this
      unfold bX3_settle_108
      rw [if_pos (by decide)]
    · right
      refine ⟨d - 1, _, _, _, _, _, _, _, by omega, ⟨t + 1, rfl, by omega, rfl, rfl, rfl, rfl, rfl, rfl⟩, ?_⟩
      intro k
      unfold bX3_settle_108
      have a0 : ¬ 27 ≤ t := by omega
      have e1 := (hrr t (by omega)).1
      have d1 : nI t - nI t / nI 9 * nI 9 = nI (t % 9) := pk_rem (by omega) (by omega) (by omega)
      have d2 : nI t / nI 9 = nI (t / 9) := pk_div (by omega) (by omega) (by omega)
      rw [show (9 : Int32) = nI 9 from rfl, d1, d2]
      simp (disch := omega) only [fa_lit, ni_bit, b2n_0, b2n_1, ni_m1, ni_of1, ni_ofm1, nI_add, pk_mul, nI_clamp, ni_lt, ni_le, ni_eq, ni_l, fa_litL, ln_le, ln_lt, ln_eq, jl_let_eq, Option.bind_some, ↓reduceIte, a0, e1, Nat.not_lt_zero, or_self]
      congr 1
      funext i
      unfold upd
      by_cases hi : i = t
      · subst hi; simp
      · rw [if_neg hi]
        have : (i < t) ↔ (i < t + 1) := by omega
        simp only [this]
  refine ⟨nI (2 ^ pn g - 1), nI (fcN (pR g) (pC g)), nI (nbp (fun s p => decide (s < pn g) && (!decide (pO g s = 9) && decide (p ≤ pP g)))), nI (canS g 0), nI (canS g 1), (fun i => if i < 27 then rr i else ro0 i), ?_, rfl, rfl, rfl, rfl, rfl, fun s hs p h1 h3 => ?_⟩
  rotate_left
  · show (if 9 * (p - 1) + s < 27 then rr (9 * (p - 1) + s) else ro0 (9 * (p - 1) + s)) = _
    rw [if_pos (by omega)]
    have := (hrr (9 * (p - 1) + s) (by omega)).2 (by omega)
    rw [this, show (9 * (p - 1) + s) % 9 = s by omega, show (9 * (p - 1) + s) / 9 + 1 = p by omega]
  · unfold fX3_settle fX3_stones
    rw [hX.1, hX.2.1, pk_mul, Option.bind_some]
    have e0 : (1 : Int32) <<< (nI (pR g * pC g) &&& 31) - 1 = nI (2 ^ pn g - 1) := by
      have h := ni_shl 1 (j := pR g * pC g) (by unfold pn at hn; omega)
      rw [Nat.one_mul] at h
      have h2 : (nI (2 ^ (pR g * pC g)) - nI 1) = nI (2 ^ (pR g * pC g) - 1) := pk_sub Nat.one_le_two_pow
      rw [← h] at h2; exact h2
    rw [jl_let_eq, e0]
    rw [hX.1, hX.2.1] at hfin
    refine Eq.trans ?_ hfin
    unfold lX3_settle_19
    refine jl_run7 (fun d x a b c e h ro => ∃ t, x = nI t ∧ t + d = pR g ∧ a = nI (2 ^ pn g - 1) ∧ b = nI (nb 9 (fun i => decide (i < t * pC g) && decide (i % pC g = 0))) ∧ c = ft0 ∧ e = p00 ∧ h = p10 ∧ ro = ro0) ?_ F (pR g) _ _ _ _ _ _ _ ⟨0, rfl, by omega, rfl, ?_, rfl, rfl, rfl, rfl⟩ (by omega)
    · rintro d x a b c e h ro ⟨t, rfl, hd, rfl, rfl, rfl, rfl, rfl, rfl⟩
      rcases Nat.eq_zero_or_pos d with h0 | h0
      · left; intro k
        have : t = pR g := by omega
        subst this
        unfold bX3_settle_19
        simp (disch := omega) only [fa_lit, ni_bit, b2n_0, b2n_1, ni_m1, ni_of1, ni_ofm1, nI_add, pk_mul, nI_clamp, ni_lt, ni_le, ni_eq, ni_l, fa_litL, ln_le, ln_lt, ln_eq, jl_let_eq, Option.bind_some, ↓reduceIte, Nat.le_refl]
        show (if 9 ≤ pR g then fX3_settle_56 F _ _ paints apart po0 po1 shut _ (nI (fcN (pR g) (pC g))) _ _ _ _ else _) = _
        split
        · rfl
        · rfl
      · right
        refine ⟨d - 1, _, _, _, _, _, _, _, by omega, ⟨t + 1, rfl, by omega, rfl, rfl, rfl, rfl, rfl, rfl⟩, ?_⟩
        intro k
        unfold bX3_settle_19
        have a0 : ¬ 9 ≤ t := by omega
        have a1 : ¬ pR g ≤ t := by omega
        have htC : t * pC g + pC g ≤ pn g := by
          have := Nat.mul_le_mul_right (pC g) (show t + 1 ≤ pR g by omega)
          rw [Nat.succ_mul] at this; exact this
        have hC1 := hg.2.1
        simp (disch := omega) only [fa_lit, ni_bit, b2n_0, b2n_1, ni_m1, ni_of1, ni_ofm1, nI_add, pk_mul, nI_clamp, ni_lt, ni_le, ni_eq, ni_l, fa_litL, ln_le, ln_lt, ln_eq, jl_let_eq, Option.bind_some, ↓reduceIte, a0, a1]
        rw [ni_shl _ (by omega), Nat.one_mul, ni_or]
        refine congrArg (fun z => k (nI (t + 1)) (nI (2 ^ pn g - 1)) (nI z) c e h ro) (nb_ext (Nat.or_lt_two_pow (nb_lt 9 _) (Nat.pow_lt_pow_right (by omega) (by omega))) (fun i hi => ?_))
        rw [Nat.testBit_or, nb_tb, Nat.testBit_two_pow]
        apply Bool.eq_iff_iff.mpr
        simp only [hi, decide_true, Bool.true_and, Bool.or_eq_true, Bool.and_eq_true, decide_eq_true_eq]
        rw [Nat.succ_mul]
        constructor
        · rintro (⟨a, b⟩ | rfl)
          · exact ⟨by omega, b⟩
          · exact ⟨by omega, Nat.mul_mod_left t (pC g)⟩
        · rintro ⟨a, b⟩
          by_cases hlt : i < t * pC g
          · exact Or.inl ⟨hlt, b⟩
          · right
            obtain ⟨q, hq⟩ := Nat.dvd_of_mod_eq_zero b
            rw [hq, Nat.mul_comm (pC g) q] at a hlt ⊢
            have e1 : t ≤ q := by
              rcases Nat.lt_or_ge q t with h | h
              · exact absurd (Nat.mul_lt_mul_of_pos_right h hC1) hlt
              · exact h
            have e2 : q < t + 1 := by
              rcases Nat.lt_or_ge q (t + 1) with h | h
              · exact h
              · have := Nat.mul_le_mul_right (pC g) h
                rw [Nat.succ_mul] at this; omega
            have : q = t := by omega
            rw [this]
    · rw [nb_cong (g := fun _ => false) (fun i _ => by simp)]; rfl
theorem x_clash {g : JP} (hg : GOK g) {rows columns paints apart po0 po1 old shut : Int32} (hX : XU g rows columns paints apart po0 po1 old shut) {all fc fit pg0 pg1 : Int32} {ro : Nat → Int32} (hS : XS g all fc fit pg0 pg1 ro) {F : Nat} (hF : 29 ≤ F) : fX3_oldOnesClash F old ro = some (nI (!jall (fun s => decide (pO g s = 0) || (decide (pO g s = 9) || wellA g (pO g) s (pO g s))) (pn g)).toNat) := by
  rw [hX.2.2.2.2.2.2.1]
  have hn := hg.2.2.1
  have hO := hg.2.2.2.2.2.2.2.1
  have hOn := hg.2.2.2.2.2.2.2.2
  have hP := hg.2.2.2.2.1
  have hw := wornS_lt31 (pO g)
  -- at place i: no clash there
  have place : ∀ i, i < 27 → pO g (i % 9) = i / 9 + 1 → i % 9 < pn g ∧ ((((ro i) &&& nI (wornS (pO g))) &&& (nI (2 ^ i) ^^^ (-nI 1))) = nI 0 ↔ wellA g (pO g) (i % 9) (i / 9 + 1) = true) := by
    intro i hi ho
    have hin : i % 9 < pn g := by
      rcases Nat.lt_or_ge (i % 9) (pn g) with h | h
      · exact h
      · rw [hOn _ h] at ho; omega
    refine ⟨hin, ?_⟩
    have hr := hS.2.2.2.2.2 (i % 9) hin (i / 9 + 1) (by omega) (by omega)
    rw [show 9 * (i / 9 + 1 - 1) + i % 9 = i by omega] at hr
    rw [hr, ni_and]
    unfold rulS wornS
    rw [nbp_and, ni_adn]
    have h2 : 2 ^ i = nbp (fun t q => decide (t = i % 9 ∧ q = i / 9 + 1)) := by
      rw [nbp_one (by omega) (by omega) (by omega)]; congr 1; omega
    rw [h2, nbp_adn, nI_eq (nbp_lt31 _) (by omega), nbp_zero]
    simp only [wellA, jall_iff, wf, rulB]
    constructor
    · intro h t ht
      have h9 : t < 9 := by omega
      rcases hO t with hh | hh
      · rcases Nat.eq_zero_or_pos (pO g t) with z | z
        · simp [z]
        · have := h t (pO g t) h9 (by omega) (by omega)
          simp only [decide_true, Bool.and_true, Bool.and_eq_false_iff, Bool.not_eq_false', decide_eq_true_eq] at this
          rcases this with h | ⟨h, h'⟩
          · simp only [Bool.or_eq_false_iff, decide_eq_false_iff_not, Bool.and_eq_false_iff, Bool.not_eq_false'] at h
            rcases h.2 with h | h | h
            · exact absurd ht h
            · simp [h]
            · simp [h]
          · subst h; simp [adj_irr]
      · simp [hh]
    · intro h t q ht hq1 hq3
      by_cases hoq : pO g t = q
      · have htn : t < pn g := by
          rcases Nat.lt_or_ge t (pn g) with h | h
          · exact h
          · rw [hOn _ h] at hoq; omega
        have := h t htn
        have q0 : q ≠ 0 := by omega
        have q9 : q ≠ 9 := by omega
        rw [hoq] at this
        simp only [q0, q9, decide_false, Bool.false_or, Bool.or_eq_true, Bool.not_eq_true'] at this
        by_cases hts : t = i % 9
        · subst hts
          have : q = i / 9 + 1 := by omega
          simp [this]
        · rcases this with h | h <;> simp [h, hts]
      · simp [hoq]
  have hall : (∀ i, i < 27 → pO g (i % 9) = i / 9 + 1 → wellA g (pO g) (i % 9) (i / 9 + 1) = true) ↔ jall (fun s => decide (pO g s = 0) || (decide (pO g s = 9) || wellA g (pO g) s (pO g s))) (pn g) = true := by
    rw [jall_iff]
    constructor
    · intro h s hs
      rcases hO s with hh | hh
      · rcases Nat.eq_zero_or_pos (pO g s) with z | z
        · simp [z]
        · have := h (9 * (pO g s - 1) + s) (by omega)
          rw [show (9 * (pO g s - 1) + s) % 9 = s by omega, show (9 * (pO g s - 1) + s) / 9 + 1 = pO g s by omega] at this
          simp [this rfl]
      · simp [hh]
    · intro h i hi ho
      have hin := (place i hi ho).1
      have := h _ hin
      rw [ho] at this
      have a0 : i / 9 + 1 ≠ 0 := by omega
      have a9 : i / 9 + 1 ≠ 9 := by omega
      simpa [a9] using this
  unfold fX3_oldOnesClash lX3_oldOnesClash_2
  refine jl_run1 (fun d x => ∃ t, x = nI t ∧ t + d = 27 ∧ ∀ i, i < t → pO g (i % 9) = i / 9 + 1 → wellA g (pO g) (i % 9) (i / 9 + 1) = true) ?_ F 27 _ ⟨0, rfl, rfl, fun i hi => absurd hi (Nat.not_lt_zero i)⟩ (by omega)
  rintro d x ⟨t, rfl, hd, hI⟩
  rcases Nat.eq_zero_or_pos d with h0 | h0
  · left; intro k
    have : t = 27 := by omega
    subst this
    unfold bX3_oldOnesClash_2
    rw [if_pos (by decide), hall.mp hI]; rfl
  · have a0 : ¬ 27 ≤ t := by omega
    have hb : (nI (wornS (pO g)) &&& nI (2 ^ t) = nI 0) ↔ ¬ pO g (t % 9) = t / 9 + 1 := by
      have := fa_bit (n := wornS (pO g)) (j := t) (by omega)
      rw [show (0 : Int32) = nI 0 from rfl] at this
      rw [this]
      unfold wornS nbp; rw [nb_tb]
      have h27 : t < 27 := by omega
      simp [h27]
    have hbody : ∀ k : Int32 → Option Int32, bX3_oldOnesClash_2 F (nI (wornS (pO g))) ro k (nI t) = if (pO g (t % 9) = t / 9 + 1 ∧ ¬ wellA g (pO g) (t % 9) (t / 9 + 1) = true) then some 1 else k (nI (t + 1)) := by
      intro k
      unfold bX3_oldOnesClash_2
      simp (disch := omega) only [fa_lit, ni_bit, b2n_0, b2n_1, ni_m1, ni_of1, ni_ofm1, nI_add, pk_mul, nI_clamp, ni_lt, ni_le, ni_eq, ni_l, fa_litL, ln_le, ln_lt, ln_eq, jl_let_eq, Option.bind_some, ↓reduceIte, a0, Nat.not_lt_zero, or_self]
      rw [ni_shl _ (by omega), Nat.one_mul]
      by_cases ho : pO g (t % 9) = t / 9 + 1
      · have hp := (place t (by omega) ho).2
        rw [if_neg (by rw [hb]; simp [ho])]
        by_cases hwl : wellA g (pO g) (t % 9) (t / 9 + 1) = true
        · rw [if_pos (hp.mpr hwl), if_neg (by simp [hwl])]
        · rw [if_neg (fun e => hwl (hp.mp e)), if_pos ⟨ho, hwl⟩]
      · rw [if_pos (hb.mpr ho), if_neg (by simp [ho])]
    by_cases hbad : pO g (t % 9) = t / 9 + 1 ∧ ¬ wellA g (pO g) (t % 9) (t / 9 + 1) = true
    · left; intro k
      rw [hbody, if_pos hbad]
      have : ¬ jall (fun s => decide (pO g s = 0) || (decide (pO g s = 9) || wellA g (pO g) s (pO g s))) (pn g) = true := fun e => hbad.2 (hall.mpr e t (by omega) hbad.1)
      simp only [Bool.not_eq_true] at this
      rw [this]; rfl
    · right
      refine ⟨d - 1, _, by omega, ⟨t + 1, rfl, by omega, fun i hi ho => ?_⟩, fun k => by rw [hbody, if_neg hbad]⟩
      rcases Nat.lt_or_ge i t with h | h
      · exact hI i h ho
      · have : i = t := by omega
        subst this
        exact Classical.byContradiction (fun hw => hbad ⟨ho, hw⟩)
