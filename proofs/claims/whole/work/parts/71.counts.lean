/-! counts on both sides; stands that follow each other -/
theorem ct_sm (p : Nat → Bool) : ∀ n, fb_ct p n = fb_sm (fun k => if p k then 1 else 0) n
  | 0 => rfl
  | n + 1 => by rw [fb_ct_succ, fb_sm_succ, ct_sm p n]
theorem ct_nb {n m : Nat} (hn : n ≤ m) (f : Nat → Bool) : fb_ct (nb n f).testBit m = fb_ct f n := by
  obtain ⟨k, rfl⟩ : ∃ k, m = n + k := ⟨m - n, by omega⟩
  rw [fb_ct_split]
  have h1 : fb_ct (nb n f).testBit n = fb_ct f n := fb_ct_cong (fun i hi => by rw [nb_tb]; simp [hi])
  have h2 : fb_ct (fun i => (nb n f).testBit (n + i)) k = 0 := fb_ct_zero.mpr (fun i _ => by rw [nb_tb]; simp [show ¬ n + i < n by omega])
  rw [h1, h2]; rfl
theorem ct27 (h : Nat → Nat → Bool) : fb_ct (nbp h).testBit 32 = fb_sm (fun s => fb_ct (fun j => h s (j + 1)) 3) 9 := by
  unfold nbp
  rw [ct_nb (by omega), show (27 : Nat) = 9 + (9 + 9) from rfl, fb_ct_split, fb_ct_split, ct_sm, ct_sm, ct_sm, ← fb_sm_add, ← fb_sm_add]
  refine fb_sm_cong (fun s hs => ?_)
  simp only [fb_ct_succ, fb_ct]
  rw [show s % 9 = s by omega, show s / 9 + 1 = 0 + 1 by omega, show (9 + s) % 9 = s by omega, show (9 + s) / 9 + 1 = 1 + 1 by omega, show (9 + (9 + s)) % 9 = s by omega, show (9 + (9 + s)) / 9 + 1 = 2 + 1 by omega]
  omega
/-- how many stones have paint -/
def ptd (c : Nat → Nat) : Nat := fb_ct (fun s => decide (1 ≤ c s) && decide (c s ≤ 3)) 9
theorem x_ptd (c : Nat → Nat) : fJ6_bitCount_0f7a4 (nI (wornS c)) = some (nI (ptd c)) := by
  rw [bitCount_ok (wornS_lt31 c)]
  unfold wornS ptd
  rw [ct27, ct_sm]
  refine congrArg (fun z => some (nI z)) (fb_sm_cong (fun s _ => ?_))
  simp only [fb_ct_succ, fb_ct]
  by_cases h0 : c s = 0
  · simp [h0]
  · by_cases h4 : 3 < c s
    · have e1 : ¬ c s = 0 + 1 := by omega
      have e2 : ¬ c s = 1 + 1 := by omega
      have e3 : ¬ c s = 2 + 1 := by omega
      have e4 : ¬ c s ≤ 3 := by omega
      simp [e1, e2, e3, e4]
    · rcases (show c s = 1 ∨ c s = 2 ∨ c s = 3 by omega) with h | h | h <;> rw [h] <;> decide
theorem painted_ok {g : JP} (hg : GOK g) {stones : Int32} (hst : stones = nI (pn g)) {slot : Nat → Int32} {k F : Nat} (hk : k < 12) {c : Nat → Nat} (hS : SC slot k c) (hc : CG g c) (hF : 10 ≤ F) : fX10_painted F stones slot (nI k) = some (nI (ptd c)) := by
  obtain ⟨hn1, hn9, -, -⟩ := gn hg
  have hall : fb_ct (fun s => decide (1 ≤ c s) && decide (c s ≤ 3)) (pn g) = ptd c := by
    obtain ⟨q, hq⟩ : ∃ q, 9 = pn g + q := ⟨9 - pn g, by omega⟩
    unfold ptd
    rw [hq, fb_ct_split]
    have : fb_ct (fun i => decide (1 ≤ c (pn g + i)) && decide (c (pn g + i) ≤ 3)) q = 0 := fb_ct_zero.mpr (fun i _ => by rw [hc.2.1 _ (by omega)]; rfl)
    rw [this]; rfl
  unfold fX10_painted lX10_painted_4
  refine jl_run2 (fun m x y => ∃ t, y = nI t ∧ t + m = pn g ∧ x = nI (fb_ct (fun s => decide (1 ≤ c s) && decide (c s ≤ 3)) t)) ?_ F (pn g) _ _ ⟨0, rfl, by omega, rfl⟩ (by omega)
  rintro m x y ⟨t, rfl, hd, rfl⟩
  rcases Nat.eq_zero_or_pos m with h0 | h0
  · left; intro k4
    have : t = pn g := by omega
    subst this
    unfold bX10_painted_4
    rw [hst, if_pos (by rw [nI_leI (by omega) (by omega)]; exact Nat.le_refl _), hall]
  · right
    refine ⟨m - 1, _, _, by omega, ⟨t + 1, rfl, by omega, rfl⟩, ?_⟩
    intro k4
    unfold bX10_painted_4 fX10_painted_40
    have a0 : ¬ pn g ≤ t := by omega
    have a1 : ¬ 240 ≤ 20 * k + t := by omega
    have e1 := hS t (by omega)
    have hct := hc.1 t
    rw [hst]
    simp (disch := omega) only [fa_lit, ni_bit, b2n_0, b2n_1, ni_m1, ni_of1, ni_ofm1, nI_add, pk_mul, nI_clamp, ni_lt, ni_le, ni_eq, ni_l, fa_litL, ln_le, ln_lt, ln_eq, jl_let_eq, Option.bind_some, ↓reduceIte, a0, a1, Nat.not_lt_zero, or_self, e1, in_ok]
    rw [L_toInt (by omega), L_toInt (by omega), L_toInt (by omega), fb_ct_succ]
    have e2 : (decide (((1 : Nat) : Int) ≤ ((c t : Nat) : Int)) && decide (((c t : Nat) : Int) ≤ ((3 : Nat) : Int))) = (decide (1 ≤ c t) && decide (c t ≤ 3)) := by
      congr 1 <;> exact decide_eq_decide.mpr (by omega)
    rw [e2]
    cases (decide (1 ≤ c t) && decide (c t ≤ 3))
    · simp
    · simp
def mayG (g : JP) (c : Nat → Nat) (t s p : Nat) : Bool := decide (s < pn g) && mayA g c t s p
def chC (g : JP) (c : Nat → Nat) (t : Nat) : Nat := fb_sm (fun s => fb_ct (fun j => mayG g c t s (j + 1)) 3) 9
theorem x_chC (g : JP) (c : Nat → Nat) (t : Nat) : fb_ct (chS g c t).testBit 32 = chC g c t := ct27 _
theorem chC_le (g : JP) (c : Nat → Nat) (t : Nat) : chC g c t ≤ 27 := by
  unfold chC
  have h := fb_sm_le (f := fun s => fb_ct (fun j => mayG g c t s (j + 1)) 3) (g := fun _ => 3) (n := 9) (fun k _ => fb_ct_le _ _)
  rw [fb_sm_const] at h; exact h
theorem chS_zero (g : JP) (c : Nat → Nat) (t : Nat) : chS g c t = 0 ↔ chC g c t = 0 := by
  rw [← x_chC]
  constructor
  · intro h; rw [h]; exact fb_ct_zero.mpr (fun k _ => Nat.zero_testBit k)
  · intro h
    rw [fb_ct_zero] at h
    apply Nat.eq_of_testBit_eq; intro i
    rw [Nat.zero_testBit]
    by_cases hi : i < 32
    · exact h i hi
    · unfold chS nbp; rw [nb_tb]
      have : ¬ i < 27 := by omega
      simp [this]
theorem may_le {g : JP} (hg : GOK g) {c : Nat → Nat} {t s p : Nat} (h : mayA g c t s p = true) : 1 ≤ p ∧ p ≤ pP g ∧ c s = 0 := by
  simp only [mayA, Bool.and_eq_true, decide_eq_true_eq] at h
  have := hg.2.2.2.2.2.2.1 _ _ h.2.1
  exact ⟨this.1, this.2, h.1⟩
theorem mays_ok {g : JP} (hg : GOK g) {stones : Int32} {told touches has old beside slot : Nat → Int32} (hM : MR g stones told touches has old beside) {w : JW} (hc : COK w.1) {k F : Nat} (hk : k < 12) (hS : SW slot k w) (ht : w.2.2 ≤ 1) (hF : 12 ≤ F) : fX10_mays F stones told touches has beside slot (nI k) = some (nI (chC g w.1 w.2.2)) := by
  obtain ⟨hn1, hn9, -, -⟩ := gn hg
  have hP := hg.2.2.2.2.1
  have hP1 := hg.2.2.2.1
  let row : Nat → Nat := fun s => fb_ct (fun j => mayA g w.1 w.2.2 s (j + 1)) (pP g)
  have hrow : ∀ s, row s = fb_ct (fun j => mayA g w.1 w.2.2 s (j + 1)) (pP g) := fun _ => rfl
  have hall : fb_sm row (pn g) = chC g w.1 w.2.2 := by
    obtain ⟨q, hq⟩ : ∃ q, 9 = pn g + q := ⟨9 - pn g, by omega⟩
    unfold chC
    rw [hq, fb_sm_split]
    have z : fb_sm (fun i => fb_ct (fun j => mayG g w.1 w.2.2 (pn g + i) (j + 1)) 3) q = 0 := by
      have := fb_sm_cong (f := fun i => fb_ct (fun j => mayG g w.1 w.2.2 (pn g + i) (j + 1)) 3) (g := fun _ => 0) (n := q) (fun i _ => fb_ct_zero.mpr (fun j _ => by simp [mayG, show ¬ pn g + i < pn g by omega]))
      rw [this, fb_sm_const, Nat.mul_zero]
    rw [z, Nat.add_zero]
    refine fb_sm_cong (fun s hs => ?_)
    rw [hrow]
    obtain ⟨u, hu⟩ : ∃ u, 3 = pP g + u := ⟨3 - pP g, by omega⟩
    rw [hu, fb_ct_split]
    have z2 : fb_ct (fun j => mayG g w.1 w.2.2 s (pP g + j + 1)) u = 0 := fb_ct_zero.mpr (fun j _ => by
      cases e : mayG g w.1 w.2.2 s (pP g + j + 1) with
      | false => rfl
      | true =>
        simp only [mayG, Bool.and_eq_true] at e
        have := (may_le hg e.2).2.1
        omega)
    rw [z2, Nat.add_zero]
    exact fb_ct_cong (fun j _ => by simp [mayG, hs])
  have rowle : ∀ s, row s ≤ 3 := fun s => Nat.le_trans (fb_ct_le _ _) hP
  have sumle : ∀ t, t ≤ pn g → fb_sm row t ≤ 27 := by
    intro t ht
    have := fb_sm_le (f := row) (g := fun _ => 3) (n := t) (fun k _ => rowle k)
    rw [fb_sm_const] at this; omega
  -- the inner loop
  have inner : ∀ (k4 : Int32 → Int32 → Option Int32) (s a : Nat), s < pn g → a ≤ 27 → lX10_mays_15 F stones told touches has beside slot (nI k) k4 F (nI a) (nI s) (1 : Int32) = k4 (nI (a + row s)) (nI (s + 1)) := by
    intro k4 s a hs ha
    unfold lX10_mays_15
    refine jl_run3 (fun m x y z => ∃ t, z = nI (t + 1) ∧ t + m = pP g ∧ y = nI s ∧ x = nI (a + fb_ct (fun j => mayA g w.1 w.2.2 s (j + 1)) t)) ?_ F (pP g) _ _ _ ⟨0, rfl, by omega, rfl, rfl⟩ (by omega)
    rintro m x y z ⟨t, rfl, hd, rfl, rfl⟩
    rcases Nat.eq_zero_or_pos m with h0 | h0
    · left; intro k15
      have : t = pP g := by omega
      subst this
      unfold bX10_mays_15
      rw [c2, hM.2.1.2.2]
      simp (disch := omega) only [fa_lit, ni_bit, b2n_0, b2n_1, ni_m1, ni_of1, ni_ofm1, nI_add, pk_mul, nI_clamp, ni_lt, ni_le, ni_eq, ni_l, fa_litL, ln_le, ln_lt, ln_eq, jl_let_eq, Option.bind_some, ↓reduceIte, Nat.lt_succ_self]
      rfl
    · right
      refine ⟨m - 1, _, _, _, by omega, ⟨t + 1, rfl, by omega, rfl, rfl⟩, ?_⟩
      intro k15
      unfold bX10_mays_15 fX10_mays_43
      have a0 : ¬ pP g < t + 1 := by omega
      have hmay := isMay_ok hg hM hc hk hS hs ht (p := t + 1) (by omega) (by omega) (F := F) (by omega)
      rw [c2, hM.2.1.2.2, hmay]
      simp (disch := omega) only [fa_lit, ni_bit, b2n_0, b2n_1, ni_m1, ni_of1, ni_ofm1, nI_add, pk_mul, nI_clamp, ni_lt, ni_le, ni_eq, ni_l, fa_litL, ln_le, ln_lt, ln_eq, jl_let_eq, Option.bind_some, ↓reduceIte, a0]
      rw [fb_ct_succ]
      cases mayA g w.1 w.2.2 s (t + 1)
      · simp
      · simp only [Bool.true_eq_false, if_false, if_true, Nat.add_assoc]
  unfold fX10_mays lX10_mays_4
  refine jl_run2 (fun m x y => ∃ t, y = nI t ∧ t + m = pn g ∧ x = nI (fb_sm row t)) ?_ F (pn g) _ _ ⟨0, rfl, by omega, rfl⟩ (by omega)
  rintro m x y ⟨t, rfl, hd, rfl⟩
  rcases Nat.eq_zero_or_pos m with h0 | h0
  · left; intro k4
    have : t = pn g := by omega
    subst this
    unfold bX10_mays_4
    rw [hM.1, if_pos (by rw [nI_leI (by omega) (by omega)]; exact Nat.le_refl _), hall]
  · right
    refine ⟨m - 1, _, _, by omega, ⟨t + 1, rfl, by omega, rfl⟩, ?_⟩
    intro k4
    unfold bX10_mays_4
    have a0 : ¬ nI (pn g) ≤ nI t := by rw [nI_leI (by omega) (by omega)]; omega
    rw [if_neg (by rw [hM.1]; exact a0), inner k4 t _ (by omega) (sumle t (by omega)), fb_sm_succ]
theorem WOK.paint {g : JP} (hg : GOK g) {w : JW} (h : WOK g w) {s p : Nat} (hs : s < pn g) (hm : mayA g w.1 w.2.2 s p = true) : WOK g (paintW w s p) := by
  obtain ⟨⟨h1, h2, h3⟩, ht, hd, ho, hold, hP⟩ := h
  obtain ⟨p1, p2, hz⟩ := may_le hg hm
  have hP3 := hg.2.2.2.2.1
  have hO : pO g s = 0 := by
    apply Classical.byContradiction; intro e
    have := hold s e; omega
  have hns : s ∉ w.2.1 := fun e => ((ho s).mp e).2 hz
  refine ⟨⟨fun t => ?_, fun t ht => ?_, fun t => ?_⟩, ?_, ?_, fun t => ?_, fun t ht => ?_, fun t => ?_⟩
  · show upc w.1 s p t ≤ 3 ∨ upc w.1 s p t = 9
    unfold upc; split
    · left; omega
    · exact h1 t
  · show upc w.1 s p t = 0
    unfold upc; rw [if_neg (by omega)]; exact h2 t ht
  · show upc w.1 s p t = 9 ↔ _
    unfold upc; split
    · next e => subst e; constructor <;> intro q <;> omega
    · exact h3 t
  · show 1 - w.2.2 ≤ 1; omega
  · show (w.2.1 ++ [s]).Nodup
    rw [List.nodup_append]
    refine ⟨hd, List.nodup_cons.mpr ⟨by simp, List.nodup_nil⟩, fun a ha b hb => ?_⟩
    simp only [List.mem_singleton] at hb
    subst hb
    intro e; subst e; exact hns ha
  · show t ∈ w.2.1 ++ [s] ↔ pO g t = 0 ∧ upc w.1 s p t ≠ 0
    rw [List.mem_append, List.mem_singleton, ho t]
    unfold upc
    by_cases e : t = s
    · subst e; rw [if_pos rfl]; constructor
      · intro _; exact ⟨hO, by omega⟩
      · intro _; exact Or.inr rfl
    · rw [if_neg e]; constructor
      · rintro (q | q)
        · exact q
        · exact absurd q e
      · intro q; exact Or.inl q
  · show upc w.1 s p t = pO g t
    unfold upc; split
    · next e => subst e; exact absurd hO ht
    · exact hold t ht
  · show upc w.1 s p t ≤ pP g ∨ upc w.1 s p t = 9
    unfold upc; split
    · left; omega
    · exact hP t
/-- a stand without the stone painted last -/
def washW (w : JW) : JW := match w.2.1.getLast? with
  | none => w
  | some s => (upc w.1 s 0, w.2.1.dropLast, w.2.2)
theorem washW_snoc (c : Nat → Nat) (l : List Nat) (s t : Nat) : washW (c, l ++ [s], t) = (upc c s 0, l, t) := by
  unfold washW; simp
theorem WOK.wash {g : JP} (hg : GOK g) {c : Nat → Nat} {l : List Nat} {s t : Nat} (h : WOK g (c, l ++ [s], t)) : WOK g (upc c s 0, l, t) := by
  have hlt := h.lt hg (s := s) (by simp)
  obtain ⟨⟨h1, h2, h3⟩, ht, hd, ho, hold, hP⟩ := h
  have hd2 : l.Nodup ∧ s ∉ l := by
    rw [List.nodup_append] at hd
    exact ⟨hd.1, fun e => hd.2.2 s e s (List.mem_singleton.mpr rfl) rfl⟩
  refine ⟨⟨fun u => ?_, fun u hu => ?_, fun u => ?_⟩, ht, hd2.1, fun u => ?_, fun u hu => ?_, fun u => ?_⟩
  · show upc c s 0 u ≤ 3 ∨ upc c s 0 u = 9
    unfold upc; split
    · left; omega
    · exact h1 u
  · show upc c s 0 u = 0
    unfold upc; split
    · rfl
    · exact h2 u hu
  · show upc c s 0 u = 9 ↔ _
    unfold upc; split
    · next e =>
      subst e
      constructor
      · intro q; omega
      · intro q; exact absurd q (by rw [hlt.2.2.2]; decide)
    · exact h3 u
  · have := ho u
    show u ∈ l ↔ pO g u = 0 ∧ upc c s 0 u ≠ 0
    unfold upc
    by_cases e : u = s
    · subst e; rw [if_pos rfl]; constructor
      · intro q; exact absurd q hd2.2
      · intro q; exact absurd rfl q.2
    · rw [if_neg e]
      rw [List.mem_append, List.mem_singleton] at this
      constructor
      · intro q; exact this.mp (Or.inl q)
      · intro q
        rcases this.mpr q with q | q
        · exact q
        · exact absurd q e
  · show upc c s 0 u = pO g u
    unfold upc; split
    · next e => subst e; exact absurd hlt.2.2.2 hu
    · exact hold u hu
  · show upc c s 0 u ≤ pP g ∨ upc c s 0 u = 9
    unfold upc; split
    · left; omega
    · exact hP u
