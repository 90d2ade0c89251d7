/-! the two games on a wall, by colours; the class's search for them -/
def mS (g : JP) (c : Nat → Nat) : Nat := fitS g c &&& (canS g 0 ||| canS g 1)
def bc (g : JP) (c : Nat → Nat) : Nat := fb_ct (fun s => decide (c s = 0)) (pn g)
def endV (g : JP) (wi : Nat) (c : Nat → Nat) (t : Nat) : Bool := decide (wi ≠ 2) && (decide (bareS g c = 0) == decide (t = wi))
/-- has he whose turn it is his will, by at most n paintings -/
def RR (g : JP) (wi : Nat) : Nat → (Nat → Nat) → Nat → Bool
  | 0, c, t => endV g wi c t
  | n + 1, c, t => if chS g c t = 0 then endV g wi c t else !jall (fun i => !(chS g c t).testBit i || RR g wi n (upc c (i % 9) (i / 9 + 1)) (1 - t)) 27
theorem XS_ex {g : JP} (hg : GOK g) : ∃ (all fc fit pg0 pg1 : Int32) (ro : Nat → Int32), XS g all fc fit pg0 pg1 ro := by
  have h9 := hg.2.2.1
  refine ⟨_, _, _, _, _, fun i => nI (rulS g (i % 9) (i / 9 + 1)), rfl, rfl, rfl, rfl, rfl, fun s hs p h1 h3 => ?_⟩
  show nI (rulS g ((9 * (p - 1) + s) % 9) ((9 * (p - 1) + s) / 9 + 1)) = _
  rw [show (9 * (p - 1) + s) % 9 = s by omega, show (9 * (p - 1) + s) / 9 + 1 = p by omega]
theorem fit_after' {g : JP} (hg : GOK g) {c : Nat → Nat} {s p : Nat} (hs : s < pn g) (h1 : 1 ≤ p) (h3 : p ≤ 3) (hz : c s = 0) : adn (fitS g c) (rulS g s p) = fitS g (upc c s p) := by
  obtain ⟨a, b, c', d, e, f, hX⟩ := XS_ex hg
  exact fit_after hg hX hs h1 h3 hz
theorem mS_after {g : JP} (hg : GOK g) {c : Nat → Nat} {s p : Nat} (hs : s < pn g) (h1 : 1 ≤ p) (h3 : p ≤ 3) (hz : c s = 0) : adn (mS g c) (rulS g s p) = mS g (upc c s p) := by
  unfold mS
  rw [adn_and, fit_after' hg hs h1 h3 hz]
theorem mS_lt (g : JP) (c : Nat → Nat) : mS g c < 2 ^ 27 := Nat.lt_of_le_of_lt Nat.and_le_left (nbp_lt _)
theorem mS_can {g : JP} (hg : GOK g) {c : Nat → Nat} (hc : CG g c) {t : Nat} (ht : t ≤ 1) : mS g c &&& canS g t = chS g c t := by
  rw [← chS_eq hg hc]
  unfold mS
  apply Nat.eq_of_testBit_eq; intro i
  simp only [Nat.testBit_and, Nat.testBit_or]
  rcases (show t = 0 ∨ t = 1 by omega) with rfl | rfl
  · cases (fitS g c).testBit i <;> cases (canS g 0).testBit i <;> cases (canS g 1).testBit i <;> rfl
  · cases (fitS g c).testBit i <;> cases (canS g 0).testBit i <;> cases (canS g 1).testBit i <;> rfl
theorem ch_tb {g : JP} {c : Nat → Nat} {t i : Nat} : (chS g c t).testBit i = (decide (i < 27) && (decide (i % 9 < pn g) && mayA g c t (i % 9) (i / 9 + 1))) := by
  unfold chS nbp
  rw [nb_tb]
/-- a painting that may be -/
theorem ch_of {g : JP} {c : Nat → Nat} {t i : Nat} (h : (chS g c t).testBit i = true) : i < 27 ∧ i % 9 < pn g ∧ c (i % 9) = 0 ∧ 1 ≤ i / 9 + 1 ∧ i / 9 + 1 ≤ 3 := by
  rw [ch_tb] at h
  simp only [mayA, Bool.and_eq_true, decide_eq_true_eq] at h
  exact ⟨h.1, h.2.1, h.2.2.1, by omega, by omega⟩
theorem bc_zero {g : JP} (hg : GOK g) {c : Nat → Nat} : bc g c = 0 ↔ bareS g c = 0 := by
  have hn := hg.2.2.1
  unfold bc bareS
  rw [fb_ct_zero, nb_zero]
  constructor
  · intro h i hi
    by_cases q : i < pn g
    · rw [h i q, Bool.and_false]
    · rw [decide_eq_false q, Bool.false_and]
  · intro h i hi
    have := h i (by omega)
    rw [decide_eq_true hi, Bool.true_and] at this
    exact this
theorem bc_upc {g : JP} {c : Nat → Nat} {s p : Nat} (hs : s < pn g) (h1 : 1 ≤ p) (hz : c s = 0) : bc g (upc c s p) + 1 = bc g c := by
  unfold bc
  have h := fb_ct_upd (fun s => decide (c s = 0)) false hs
  have e : fb_ct (fun t => decide (upc c s p t = 0)) (pn g) = fb_ct (fun k => if k = s then false else decide (c k = 0)) (pn g) := fb_ct_cong (fun k _ => by
    unfold upc
    by_cases q : k = s
    · rw [if_pos q, if_pos q]; exact decide_eq_false (by omega)
    · rw [if_neg q, if_neg q])
  rw [e]
  simp only [hz, decide_true, if_true] at h
  simpa using h
theorem bc_le {g : JP} (hg : GOK g) (c : Nat → Nat) : bc g c ≤ 9 := Nat.le_trans (fb_ct_le _ _) hg.2.2.1
theorem ch_bare {g : JP} {c : Nat → Nat} {t : Nat} (hg : GOK g) (h : bareS g c = 0) : chS g c t = 0 := by
  apply Nat.eq_of_testBit_eq; intro i
  rw [Nat.zero_testBit]
  cases hb : (chS g c t).testBit i with
  | false => rfl
  | true =>
    obtain ⟨h1, h2, h3, -, -⟩ := ch_of hb
    have hn := hg.2.2.1
    have : (bareS g c).testBit (i % 9) = true := by
      rw [bare_tb]
      have : i % 9 < 9 := by omega
      simp [h2, h3, this]
    rw [h, Nat.zero_testBit] at this; cases this
theorem jall_c {f g : Nat → Bool} {n : Nat} (h : ∀ i, i < n → f i = g i) : (!jall f n) = !jall g n := by rw [jall_cong h]
theorem RR_fuel {g : JP} (hg : GOK g) (wi : Nat) : ∀ n n' c t, bc g c ≤ n → bc g c ≤ n' → RR g wi n c t = RR g wi n' c t := by
  intro n
  induction n with
  | zero =>
    intro n' c t h1 h2
    have hb := (bc_zero hg).mp (Nat.le_zero.mp h1)
    cases n' with
    | zero => rfl
    | succ n' =>
      show endV g wi c t = if chS g c t = 0 then endV g wi c t else _
      rw [if_pos (ch_bare hg hb)]
  | succ n ih =>
    intro n' c t h1 h2
    cases n' with
    | zero =>
      have hb := (bc_zero hg).mp (Nat.le_zero.mp h2)
      show (if chS g c t = 0 then endV g wi c t else _) = endV g wi c t
      rw [if_pos (ch_bare hg hb)]
    | succ n' =>
      show (if chS g c t = 0 then endV g wi c t else _) = if chS g c t = 0 then endV g wi c t else _
      by_cases hz : chS g c t = 0
      · rw [if_pos hz, if_pos hz]
      · rw [if_neg hz, if_neg hz]
        refine jall_c (fun i hi => ?_)
        cases hb : (chS g c t).testBit i with
        | false => rfl
        | true =>
          obtain ⟨q1, q2, q3, q4, q5⟩ := ch_of hb
          have := bc_upc (p := i / 9 + 1) q2 q4 q3
          rw [ih n' _ _ (by omega) (by omega)]
theorem RR_eq {g : JP} (hg : GOK g) (wi : Nat) (c : Nat → Nat) (t : Nat) : RR g wi 9 c t = if chS g c t = 0 then endV g wi c t else !jall (fun i => !(chS g c t).testBit i || RR g wi 9 (upc c (i % 9) (i / 9 + 1)) (1 - t)) 27 := by
  rw [RR_fuel hg wi 9 10 c t (bc_le hg c) (by have := bc_le hg c; omega)]; rfl
theorem nbp_of {m : Nat} (h : m < 2 ^ 27) : m = nbp (fun s p => m.testBit (9 * (p - 1) + s)) := nbp_ext h (fun _ _ _ _ _ => rfl)
theorem x_ptdM {m : Nat} (h : m < 2 ^ 27) : fX3_painted (nI m) = some (nI (ptdN m)) := by
  have e := x_painted (h := fun s p => m.testBit (9 * (p - 1) + s))
  rw [← nbp_of h] at e
  rw [e]
  refine congrArg (fun z => some (nI z)) (nb_cong (fun s _ => ?_))
  rw [show 9 * (1 - 1) + s = s by omega, show 9 * (2 - 1) + s = 9 + s by omega, show 9 * (3 - 1) + s = 18 + s by omega]
theorem ptd_tb {m s : Nat} : (ptdN m).testBit s = (decide (s < 9) && (m.testBit s || m.testBit (9 + s) || m.testBit (18 + s))) := nb_tb 9 _ s
theorem ptd_iff {m s : Nat} (hs : s < 9) : (ptdN m).testBit s = true ↔ ∃ p, 1 ≤ p ∧ p ≤ 3 ∧ m.testBit (9 * (p - 1) + s) = true := by
  rw [ptd_tb, decide_eq_true hs, Bool.true_and, Bool.or_eq_true, Bool.or_eq_true]
  constructor
  · rintro ((h | h) | h)
    · exact ⟨1, by omega, by omega, by rw [show 9 * (1 - 1) + s = s by omega]; exact h⟩
    · exact ⟨2, by omega, by omega, h⟩
    · exact ⟨3, by omega, by omega, h⟩
  · rintro ⟨p, p1, p3, h⟩
    rcases (show p = 1 ∨ p = 2 ∨ p = 3 by omega) with rfl | rfl | rfl
    · rw [show 9 * (1 - 1) + s = s by omega] at h; exact Or.inl (Or.inl h)
    · exact Or.inl (Or.inr h)
    · exact Or.inr h
theorem mS_tb {g : JP} {c : Nat → Nat} {s p : Nat} (hs : s < 9) (h1 : 1 ≤ p) (h3 : p ≤ 3) (h : (mS g c).testBit (9 * (p - 1) + s) = true) : s < pn g ∧ c s = 0 := by
  unfold mS fitS at h
  rw [Nat.testBit_and, nbp_tb hs h1 h3] at h
  simp only [Bool.and_eq_true, decide_eq_true_eq] at h
  exact ⟨h.1.1, h.1.2.1⟩
theorem ptd_bare {g : JP} {c : Nat → Nat} {s : Nat} (h : (ptdN (mS g c)).testBit s = true) : (bareS g c).testBit s = true := by
  have hs : s < 9 := by
    rw [ptd_tb, Bool.and_eq_true, decide_eq_true_eq] at h; exact h.1
  obtain ⟨p, p1, p3, h⟩ := (ptd_iff hs).mp h
  obtain ⟨a, b⟩ := mS_tb hs p1 p3 h
  rw [bare_tb, decide_eq_true hs, decide_eq_true a, decide_eq_true b]; rfl
theorem bare_lt (g : JP) (c : Nat → Nat) : bareS g c < 2 ^ 9 := nb_lt 9 _
/-- a bare stone that nobody can paint any more -/
def dead (g : JP) (c : Nat → Nat) : Prop := adn (bareS g c) (ptdN (mS g c)) ≠ 0
theorem dead_iff {g : JP} {c : Nat → Nat} : dead g c ↔ ∃ s, (bareS g c).testBit s = true ∧ (ptdN (mS g c)).testBit s = false := by
  have hb := bare_lt g c
  unfold dead
  constructor
  · intro h
    apply Classical.byContradiction
    intro hc
    apply h
    apply Nat.eq_of_testBit_eq; intro i
    rw [adn_tb (by omega), Nat.zero_testBit]
    cases h1 : (bareS g c).testBit i with
    | false => rfl
    | true =>
      cases h2 : (ptdN (mS g c)).testBit i with
      | true => rfl
      | false => exact absurd ⟨i, h1, h2⟩ hc
  · rintro ⟨s, h1, h2⟩ h
    have := congrArg (fun z => z.testBit s) h
    simp only [adn_tb (show bareS g c < 2 ^ 32 by omega), h1, h2, Nat.zero_testBit, Bool.not_false, Bool.and_true] at this
    cases this
theorem ch_sub {g : JP} (hg : GOK g) {c : Nat → Nat} (hc : CG g c) {t : Nat} (ht : t ≤ 1) {i : Nat} (h : (chS g c t).testBit i = true) : (mS g c).testBit i = true := by
  rw [← mS_can hg hc ht, Nat.testBit_and, Bool.and_eq_true] at h
  exact h.1
theorem dead_after {g : JP} (hg : GOK g) {c : Nat → Nat} (hc : CG g c) {t : Nat} (ht : t ≤ 1) {i : Nat} (h : (chS g c t).testBit i = true) (hd : dead g c) : dead g (upc c (i % 9) (i / 9 + 1)) := by
  obtain ⟨q1, q2, q3, q4, q5⟩ := ch_of h
  obtain ⟨s, s1, s2⟩ := dead_iff.mp hd
  have hs : s < 9 := by
    rw [bare_tb, Bool.and_eq_true, decide_eq_true_eq] at s1; exact s1.1
  have hne : s ≠ i % 9 := by
    intro e
    have : (ptdN (mS g c)).testBit s = true := (ptd_iff hs).mpr ⟨i / 9 + 1, q4, q5, by
      rw [show 9 * (i / 9 + 1 - 1) + s = i by omega]; exact ch_sub hg hc ht h⟩
    rw [s2] at this; cases this
  have hb := bare_lt g c
  have hm := mS_lt g c
  refine dead_iff.mpr ⟨s, ?_, ?_⟩
  · rw [← bare_upc q2 q4 hg.2.2.1, adn_tb (by omega), s1, Nat.testBit_two_pow]
    have : ¬ i % 9 = s := fun e => hne e.symm
    simp [this]
  · rw [← mS_after hg q2 q4 q5 q3]
    cases hx : (ptdN (adn (mS g c) (rulS g (i % 9) (i / 9 + 1)))).testBit s with
    | false => rfl
    | true =>
      obtain ⟨p, p1, p3, h'⟩ := (ptd_iff hs).mp hx
      rw [adn_tb (by omega), Bool.and_eq_true] at h'
      have : (ptdN (mS g c)).testBit s = true := (ptd_iff hs).mpr ⟨p, p1, p3, h'.1⟩
      rw [s2] at this; cases this
theorem end_dead {g : JP} {wi : Nat} (hw : wi ≤ 1) {c : Nat → Nat} {t : Nat} (hd : dead g c) : endV g wi c t = decide (t ≠ wi) := by
  obtain ⟨s, s1, -⟩ := dead_iff.mp hd
  have hb : bareS g c ≠ 0 := by
    intro e; rw [e, Nat.zero_testBit] at s1; cases s1
  unfold endV
  rw [decide_eq_true (show wi ≠ 2 by omega), decide_eq_false hb, Bool.true_and]
  by_cases e : t = wi
  · simp [e]
  · simp [e]
theorem RR_dead {g : JP} (hg : GOK g) {wi : Nat} (hw : wi ≤ 1) : ∀ n c t, CG g c → t ≤ 1 → dead g c → RR g wi n c t = decide (t ≠ wi) := by
  intro n
  induction n with
  | zero => intro c t hc ht hd; exact end_dead hw hd
  | succ n ih =>
    intro c t hc ht hd
    show (if chS g c t = 0 then endV g wi c t else _) = _
    by_cases hz : chS g c t = 0
    · rw [if_pos hz]; exact end_dead hw hd
    · rw [if_neg hz]
      have hi : ∀ i, (chS g c t).testBit i = true → RR g wi n (upc c (i % 9) (i / 9 + 1)) (1 - t) = decide (1 - t ≠ wi) := fun i hb => by
        obtain ⟨q1, q2, q3, q4, q5⟩ := ch_of hb
        exact ih _ _ (hc.pc q2 q3 q5) (by omega) (dead_after hg hc ht hb hd)
      have hx : ∃ i, i < 27 ∧ (chS g c t).testBit i = true := by
        apply Classical.byContradiction
        intro hno
        apply hz
        apply Nat.eq_of_testBit_eq; intro i
        rw [Nat.zero_testBit]
        cases hb : (chS g c t).testBit i with
        | false => rfl
        | true => exact absurd ⟨i, (ch_of hb).1, hb⟩ hno
      obtain ⟨i, i1, i2⟩ := hx
      by_cases e : 1 - t = wi
      · have hj : jall (fun i => !(chS g c t).testBit i || RR g wi n (upc c (i % 9) (i / 9 + 1)) (1 - t)) 27 = false := by
          cases hj : jall (fun i => !(chS g c t).testBit i || RR g wi n (upc c (i % 9) (i / 9 + 1)) (1 - t)) 27 with
          | false => rfl
          | true =>
            have := (jall_iff.mp hj) i i1
            rw [i2, hi i i2] at this
            simp [e] at this
        rw [hj]
        have : t ≠ wi := by omega
        simp [this]
      · have hj : jall (fun i => !(chS g c t).testBit i || RR g wi n (upc c (i % 9) (i / 9 + 1)) (1 - t)) 27 = true := by
          rw [jall_iff]
          intro j hj
          cases hb : (chS g c t).testBit j with
          | false => rfl
          | true => rw [hi j hb]; simp [e]
        rw [hj]
        have : t = wi := by omega
        simp [this]
theorem winN_RR {g : JP} (hg : GOK g) {wi : Nat} (hw : wi ≤ 2) : ∀ n c t, CG g c → t ≤ 1 → bc g c ≤ n → winN g wi n (mS g c) (bareS g c) t = RR g wi n c t := by
  intro n
  induction n with
  | zero =>
    intro c t hc ht hb
    have hz := (bc_zero hg).mp (Nat.le_zero.mp hb)
    show (if wi ≠ 2 ∧ adn (bareS g c) (ptdN (mS g c)) ≠ 0 then decide (t ≠ wi) else if mS g c &&& canS g t = 0 then decide (wi ≠ 2) && (decide (bareS g c = 0) == decide (t = wi)) else false) = endV g wi c t
    rw [if_neg (by rintro ⟨-, h⟩; apply h; rw [hz]; unfold adn; exact Nat.zero_and _), mS_can hg hc ht, if_pos (ch_bare hg hz)]; rfl
  | succ n ih =>
    intro c t hc ht hb
    show (if wi ≠ 2 ∧ adn (bareS g c) (ptdN (mS g c)) ≠ 0 then decide (t ≠ wi) else if mS g c &&& canS g t = 0 then decide (wi ≠ 2) && (decide (bareS g c = 0) == decide (t = wi)) else !jall (fun i => !(mS g c &&& canS g t).testBit i || winN g wi n (adn (mS g c) (rulS g (i % 9) (i / 9 + 1))) (adn (bareS g c) (2 ^ (i % 9))) (1 - t)) 27) = _
    by_cases hd : wi ≠ 2 ∧ adn (bareS g c) (ptdN (mS g c)) ≠ 0
    · rw [if_pos hd, RR_dead hg (by omega) _ c t hc ht hd.2]
    · rw [if_neg hd, mS_can hg hc ht]
      show _ = if chS g c t = 0 then endV g wi c t else _
      by_cases hz : chS g c t = 0
      · rw [if_pos hz, if_pos hz]; rfl
      · rw [if_neg hz, if_neg hz]
        refine jall_c (fun i hi => ?_)
        cases hx : (chS g c t).testBit i with
        | false => rfl
        | true =>
          obtain ⟨q1, q2, q3, q4, q5⟩ := ch_of hx
          have := bc_upc (p := i / 9 + 1) q2 q4 q3
          rw [mS_after hg q2 q4 q5 q3, bare_upc q2 q4 hg.2.2.1, ih _ _ (hc.pc q2 q3 q5) (by omega) (by omega)]
theorem winN_2 (g : JP) : ∀ n m b b' t, winN g 2 n m b t = winN g 2 n m b' t := by
  intro n
  induction n with
  | zero =>
    intro m b b' t
    show (if (2 : Nat) ≠ 2 ∧ _ then _ else if m &&& canS g t = 0 then decide ((2 : Nat) ≠ 2) && _ else false) = (if (2 : Nat) ≠ 2 ∧ _ then _ else if m &&& canS g t = 0 then decide ((2 : Nat) ≠ 2) && _ else false)
    have n1 : ¬ ((2 : Nat) ≠ 2 ∧ adn b (ptdN m) ≠ 0) := fun h => h.1 rfl
    have n2 : ¬ ((2 : Nat) ≠ 2 ∧ adn b' (ptdN m) ≠ 0) := fun h => h.1 rfl
    rw [if_neg n1, if_neg n2]; rfl
  | succ n ih =>
    intro m b b' t
    show (if (2 : Nat) ≠ 2 ∧ _ then _ else if m &&& canS g t = 0 then decide ((2 : Nat) ≠ 2) && _ else !jall (fun i => !(m &&& canS g t).testBit i || winN g 2 n (adn m (rulS g (i % 9) (i / 9 + 1))) (adn b (2 ^ (i % 9))) (1 - t)) 27) = (if (2 : Nat) ≠ 2 ∧ _ then _ else if m &&& canS g t = 0 then decide ((2 : Nat) ≠ 2) && _ else !jall (fun i => !(m &&& canS g t).testBit i || winN g 2 n (adn m (rulS g (i % 9) (i / 9 + 1))) (adn b' (2 ^ (i % 9))) (1 - t)) 27)
    have n1 : ¬ ((2 : Nat) ≠ 2 ∧ adn b (ptdN m) ≠ 0) := fun h => h.1 rfl
    have n2 : ¬ ((2 : Nat) ≠ 2 ∧ adn b' (ptdN m) ≠ 0) := fun h => h.1 rfl
    rw [if_neg n1, if_neg n2]
    by_cases hz : m &&& canS g t = 0
    · rw [if_pos hz, if_pos hz]; rfl
    · rw [if_neg hz, if_neg hz]
      exact jall_c (fun i _ => by rw [ih _ (adn b (2 ^ (i % 9))) (adn b' (2 ^ (i % 9)))])
/-- what is kept in memory is the game's answer -/
theorem mem_val {g : JP} (hg : GOK g) {wi : Nat} (hw : wi ≤ 2) {c : Nat → Nat} {t : Nat} (hc : CG g c) (ht : t ≤ 1) (hd : wi ≠ 2 → ¬ dead g c) : winN g wi 9 (mS g c) (ptdN (mS g c)) t = RR g wi 9 c t := by
  by_cases e : wi = 2
  · subst e
    rw [winN_2 g 9 _ _ (bareS g c) t]
    exact winN_RR hg hw 9 c t hc ht (bc_le hg c)
  · have : ptdN (mS g c) = bareS g c := by
      apply Nat.eq_of_testBit_eq; intro s
      cases h1 : (ptdN (mS g c)).testBit s with
      | true => exact (ptd_bare h1).symm
      | false =>
        cases h2 : (bareS g c).testBit s with
        | false => rfl
        | true => exact absurd (dead_iff.mpr ⟨s, h2, h1⟩) (hd e)
    rw [this]
    exact winN_RR hg hw 9 c t hc ht (bc_le hg c)
