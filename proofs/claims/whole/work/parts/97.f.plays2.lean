/-! the reference's table of the games: one wall, all walls, the lowest painting -/
def skA (g : JP) (w c : Nat → Nat) (x : Nat) : Nat → Bool := jall (fun i => noM g c x (fs g w i) (pP g))
def skB (g : JP) (wi : Nat) (w c : Nat → Nat) (x : Nat) : Nat → Bool := jall (fun i => noG g wi c x (fs g w i) (pP g))
def skC (g : JP) (w c : Nat → Nat) : Nat → Bool := jall (fun i => decide (c (fs g w i) ≠ 0))
/-- the colours of a wall that has the paint of w, and perhaps more -/
def More (g : JP) (w c : Nat → Nat) : Prop := ∀ s, ¬ (s < pn g ∧ w s = 0) → c s = w s
theorem more_z {g : JP} {w c : Nat → Nat} (h : More g w c) {s : Nat} (hs : s < pn g) (hz : c s = 0) : w s = 0 := by
  apply Classical.byContradiction
  intro hn
  have := h s (fun q => hn q.2)
  omega
theorem skA_ok {g : JP} (hg : GOK g) {w c : Nat → Nat} (h : More g w c) (x : Nat) : skA g w c x (bc g w) = decide (chS g c x = 0) := by
  have hn9 := hg.2.2.1
  have hP := hg.2.2.2.2.1
  apply Bool.eq_iff_iff.mpr
  rw [decide_eq_true_eq]
  unfold skA noM
  rw [jall_iff]
  constructor
  · intro ha
    apply Nat.eq_of_testBit_eq; intro i
    rw [Nat.zero_testBit]
    cases hb : (chS g c x).testBit i with
    | false => rfl
    | true =>
      obtain ⟨q1, q2, q3, q4, q5⟩ := ch_of hb
      rw [ch_tb, decide_eq_true q1, decide_eq_true q2, Bool.true_and, Bool.true_and] at hb
      have hp : i / 9 + 1 ≤ pP g := by
        have hh := hb
        unfold mayA at hh
        simp only [Bool.and_eq_true] at hh
        exact (hg.2.2.2.2.2.2.1 _ _ hh.2.1).2
      have hz := more_z h q2 q3
      have := jall_iff.mp (ha _ (ix_lt q2 hz)) (i / 9) (by omega)
      rw [fs_ix q2 hz, hb] at this
      cases this
  · intro hz i hi
    rw [jall_iff]
    intro q hq
    obtain ⟨a, b, d⟩ := fs_ok hi
    cases hm : mayA g c x (fs g w i) (q + 1) with
    | false => rfl
    | true =>
      have : (chS g c x).testBit (9 * q + fs g w i) = true := by
        rw [ch_tb, show (9 * q + fs g w i) % 9 = fs g w i by omega, show (9 * q + fs g w i) / 9 + 1 = q + 1 by omega, hm, decide_eq_true a, decide_eq_true (show 9 * q + fs g w i < 27 by omega)]; rfl
      rw [hz, Nat.zero_testBit] at this; cases this
theorem skB_ok {g : JP} (hg : GOK g) {wi : Nat} {w c : Nat → Nat} (h : More g w c) (x : Nat) : skB g wi w c x (bc g w) = true ↔ ∀ s p, s < 9 → 1 ≤ p → p ≤ 3 → good g wi c x s p = false := by
  have hn9 := hg.2.2.1
  have hP := hg.2.2.2.2.1
  unfold skB noG
  rw [jall_iff]
  constructor
  · intro ha s p s9 p1 p3
    cases hb : good g wi c x s p with
    | false => rfl
    | true =>
      have hb' := hb
      unfold good at hb
      rw [Bool.and_eq_true] at hb
      obtain ⟨q1, q2, q3, q4, q5⟩ := ch_of hb.1
      rw [show (9 * (p - 1) + s) % 9 = s by omega] at q2 q3
      have hm : mayA g c x s p = true := by
        have := hb.1
        rw [ch_tb, show (9 * (p - 1) + s) % 9 = s by omega, show (9 * (p - 1) + s) / 9 + 1 = p by omega] at this
        simp only [Bool.and_eq_true] at this
        exact this.2.2
      have hp : p ≤ pP g := by
        unfold mayA at hm
        simp only [Bool.and_eq_true] at hm
        exact (hg.2.2.2.2.2.2.1 _ _ hm.2.1).2
      have hz := more_z h q2 q3
      have := jall_iff.mp (ha _ (ix_lt q2 hz)) (p - 1) (by omega)
      rw [fs_ix q2 hz, show p - 1 + 1 = p by omega, hb'] at this
      cases this
  · intro ha i hi
    rw [jall_iff]
    intro q hq
    obtain ⟨a, b, d⟩ := fs_ok hi
    rw [ha _ _ (by omega) (by omega) (by omega)]; rfl
theorem skC_ok {g : JP} (hg : GOK g) {w c : Nat → Nat} (h : More g w c) : skC g w c (bc g w) = decide (bareS g c = 0) := by
  have hn9 := hg.2.2.1
  apply Bool.eq_iff_iff.mpr
  rw [decide_eq_true_eq]
  unfold skC
  rw [jall_iff]
  unfold bareS
  rw [nb_zero]
  constructor
  · intro ha s hs
    by_cases e : s < pn g ∧ c s = 0
    · have hz := more_z h e.1 e.2
      have := ha _ (ix_lt e.1 hz)
      rw [fs_ix e.1 hz, decide_eq_true_eq] at this
      exact absurd e.2 this
    · by_cases q : s < pn g
      · rw [decide_eq_false (show ¬ c s = 0 from fun z => e ⟨q, z⟩), Bool.and_false]
      · rw [decide_eq_false q, Bool.false_and]
  · intro ha i hi
    obtain ⟨a, b, d⟩ := fs_ok hi
    have := ha (fs g w i) (by omega)
    rw [decide_eq_true a, Bool.true_and, decide_eq_false_iff_not] at this
    exact decide_eq_true this
/-- the answer for one wall -/
theorem fin_val {g : JP} (hg : GOK g) {wi : Nat} {w c : Nat → Nat} (h : More g w c) (x : Nat) : (if skA g w c x (bc g w) = true then (decide (wi ≠ 2) && (skC g w c (bc g w) == decide (x = wi))) else !skB g wi w c x (bc g w)) = RR g wi 9 c x := by
  rw [skA_ok hg h, skC_ok hg h, RR_eq hg]
  by_cases hz : chS g c x = 0
  · rw [if_pos (decide_eq_true hz), if_pos hz]; rfl
  · rw [if_neg (by rw [decide_eq_false hz]; decide)]
    have h1 := RR_good hg (wi := wi) hz
    rw [← skB_ok hg h x] at h1
    rw [← RR_eq hg]
    cases hR : RR g wi 9 c x with
    | false => rw [h1.mp hR]; rfl
    | true =>
      cases hB : skB g wi w c x (bc g w) with
      | false => rfl
      | true => rw [h1.mpr hB] at hR; cases hR
def p1of (wi : Nat) : Int32 := if wi = 2 then -1 else nI wi
theorem plays_end {F : Nat} {stones : Int32} {told touches has beside : Nat → Int32} {wi : Nat} (hw : wi ≤ 2) (K22 : Int32 → Int32 → (Nat → Int32) → (Nat → Int32) → (Nat → Int32) → Option (Int32 × (Nat → Int32) × (Nat → Int32) × (Nat → Int32))) (K59 : Int32 → Int32 → Int32 → Int32 → Int32 → Int32 → Int32 → (Nat → Int32) → (Nat → Int32) → (Nat → Int32) → Option (Int32 × (Nat → Int32) × (Nat → Int32) × (Nat → Int32))) {code x nf : Nat} (hcode : code < 262144) (hx : x ≤ 1) (hnf : nf ≤ 9) (S W C : Bool) (slot free worth : Nat → Int32) :
    bX10_plays_59 F stones told touches has beside (p1of wi) K22 K59 (nI code) (nI x) (nI S.toNat) (nI W.toNat) (nI C.toNat) (nI nf) (nI nf) slot free worth = K22 (nI code - nI 1) (nI nf) slot free (upd worth code (nI (if S = true then (decide (wi ≠ 2) && (C == decide (x = wi))) else W).toNat)) := by
  have hm1 : nI code + Int32.ofInt (-1) = nI code - nI 1 := by
    rw [ni_ofm1, Int32.sub_eq_add_neg]
  have h271 : ∀ v : Bool, fX10_plays_271 F stones told touches has beside (p1of wi) K22 (nI code) (nI v.toNat) (nI code) (nI nf) slot free worth = K22 (nI code - nI 1) (nI nf) slot free (upd worth code (nI v.toNat)) := by
    intro v
    unfold fX10_plays_271
    have hv : vp_nar .byte (nI v.toNat).toInt8.toInt32 = nI v.toNat := by cases v <;> rfl
    rw [nI_clamp (by omega), if_neg (by
      rintro (q | q)
      · exact nI_pos (by omega) q
      · omega), jl_let_eq, jl_let_eq, hm1, hv]
  have h236 : ∀ E : Bool, fX10_plays_236 F stones told touches has beside (p1of wi) K22 (nI code) (nI S.toNat) (nI W.toNat) (nI E.toNat) (nI nf) slot free worth = K22 (nI code - nI 1) (nI nf) slot free (upd worth code (nI (if S = true then E else W).toNat)) := by
    intro E
    have f0 := h271 false
    have f1 := h271 true
    rw [show nI false.toNat = 0 from rfl] at f0
    rw [show nI true.toNat = 1 from rfl] at f1
    unfold fX10_plays_236
    rw [f0, f1]
    cases S with
    | false =>
      rw [if_pos (show nI false.toNat = 0 from rfl), if_neg (show ¬ false = true by decide)]
      cases W with
      | false => rw [if_pos (show nI false.toNat = 0 from rfl)]; rfl
      | true => rw [if_neg (show ¬ nI true.toNat = 0 by decide)]; rfl
    | true =>
      rw [if_neg (show ¬ nI true.toNat = 0 by decide), if_pos rfl]
      cases E with
      | false => rw [if_pos (show nI false.toNat = 0 from rfl)]; rfl
      | true => rw [if_neg (show ¬ nI true.toNat = 0 by decide)]; rfl
  have g0 := h236 false
  have g1 := h236 true
  rw [show nI false.toNat = 0 from rfl] at g0
  rw [show nI true.toNat = 1 from rfl] at g1
  unfold bX10_plays_59
  rw [if_pos (by rw [nI_leI (by omega) (by omega)]; exact Nat.le_refl _)]
  unfold fX10_plays_228 fX10_plays_235
  rw [g0, g1]
  by_cases e : wi = 2
  · subst e
    rw [if_pos (show p1of 2 < 0 by decide)]; rfl
  · have hp : p1of wi = nI wi := by unfold p1of; rw [if_neg e]
    rw [if_neg (by rw [hp]; exact nI_pos (by omega)), decide_eq_true (show wi ≠ 2 from e)]
    rw [hp] at *
    by_cases q : x = wi
    · rw [if_pos (by rw [q]), decide_eq_true q]
      cases C with
      | false => rw [if_neg (show ¬ nI false.toNat = 1 by decide)]; rfl
      | true => rw [if_pos (show nI true.toNat = 1 from rfl)]; rfl
    · rw [if_neg (by rw [nI_eq (by omega) (by omega)]; exact q), decide_eq_false q]
      cases C with
      | false => rw [if_pos (show nI false.toNat = 0 from rfl)]; rfl
      | true => rw [if_neg (show ¬ nI true.toNat = 0 by decide)]; rfl
/-- one wall -/
theorem plays_mid {g : JP} (hg : GOK g) {stones : Int32} {told touches has old beside : Nat → Int32} (hM : MR g stones told touches has old beside) {w : JW} (hc : CG g w.1) (hl : w.2.1.length ≤ 9) {wi : Nat} (hw : wi ≤ 2) {s0 : Nat → Int32} (hS : SW s0 11 w) {code t F : Nat} (hF : 11 ≤ F) (ht : t ≤ 1) (hcode : code < 4 ^ bc g w.1)
    {free worth : Nat → Int32} (hfr : ∀ i, i < bc g w.1 → free i = nI (fs g w.1 i)) (hwo : ∀ j, code < j → j < 4 ^ bc g w.1 → worth j = nI (RR g wi 9 (colC g w.1 j) (mvC g w.1 j t)).toNat)
    (K22 : Int32 → Int32 → (Nat → Int32) → (Nat → Int32) → (Nat → Int32) → Option (Int32 × (Nat → Int32) × (Nat → Int32) × (Nat → Int32))) :
    ∀ m k, k + m = bc g w.1 → ∀ f, m < f → jl_loop10 (bX10_plays_59 F stones told touches has beside (p1of wi) K22) f (nI code) (nI (mvC g w.1 code t)) (nI (skA g w.1 (colC g w.1 code) (mvC g w.1 code t) k).toNat) (nI (!skB g wi w.1 (colC g w.1 code) (mvC g w.1 code t) k).toNat) (nI (skC g w.1 (colC g w.1 code) k).toNat) (nI k) (nI (bc g w.1)) (WS (upd s0 239 (nI (mvC g w.1 code t))) (colC g w.1 code)) free worth
      = K22 (nI code - nI 1) (nI (bc g w.1)) (WS (upd s0 239 (nI (mvC g w.1 code t))) (colC g w.1 code)) free (upd worth code (nI (RR g wi 9 (colC g w.1 code) (mvC g w.1 code t)).toNat)) := by
  have hb9 := bc_le hg w.1
  have hn9 := hg.2.2.1
  have hP1 := hg.2.2.2.1
  have hP := hg.2.2.2.2.1
  have hx := mvC_le g w.1 code t
  have h49 : 4 ^ bc g w.1 ≤ 4 ^ 9 := Nat.pow_le_pow_right (by omega) hb9
  have e49 : (4 : Nat) ^ 9 = 262144 := by decide
  intro m
  induction m with
  | zero =>
    intro k hk f hf
    have : k = bc g w.1 := by omega
    subst this
    obtain ⟨f', rfl⟩ : ∃ f', f = f' + 1 := ⟨f - 1, by omega⟩
    rw [jl_loop10_s, plays_end hw K22 _ (by omega) hx hb9, fin_val hg (fun s h => colC_out s h)]
  | succ m ih =>
    intro k hk f hf
    obtain ⟨f', rfl⟩ : ∃ f', f = f' + 1 := ⟨f - 1, by omega⟩
    have hr := ih (k + 1) (by omega) f' (by omega)
    obtain ⟨a, b, c⟩ := fs_ok (g := g) (w := w.1) (k := k) (by omega)
    have hcs := (colC_CG hc code).1 (fs g w.1 k)
    have eA : skA g w.1 (colC g w.1 code) (mvC g w.1 code t) (k + 1) = (skA g w.1 (colC g w.1 code) (mvC g w.1 code t) k && noM g (colC g w.1 code) (mvC g w.1 code t) (fs g w.1 k) (pP g)) := rfl
    have eB : skB g wi w.1 (colC g w.1 code) (mvC g w.1 code t) (k + 1) = (skB g wi w.1 (colC g w.1 code) (mvC g w.1 code t) k && noG g wi (colC g w.1 code) (mvC g w.1 code t) (fs g w.1 k) (pP g)) := rfl
    have eC : skC g w.1 (colC g w.1 code) (k + 1) = (skC g w.1 (colC g w.1 code) k && decide (colC g w.1 code (fs g w.1 k) ≠ 0)) := rfl
    rw [eA, eB, eC, Bool.not_and] at hr
    rw [jl_loop10_s]
    generalize jl_loop10 (bX10_plays_59 F stones told touches has beside (p1of wi) K22) f' = K at hr ⊢
    -- what the paints of the stone bring
    have h109 : ∀ (is : Bool) (C : Int32), is = decide (colC g w.1 code (fs g w.1 k) = 0) → fX10_plays_109 F stones told touches has beside (p1of wi) K22 K (nI code) (nI (mvC g w.1 code t)) (nI (skA g w.1 (colC g w.1 code) (mvC g w.1 code t) k).toNat) (nI (!skB g wi w.1 (colC g w.1 code) (mvC g w.1 code t) k).toNat) (nI k) (nI is.toNat) C (nI (bc g w.1)) (WS (upd s0 239 (nI (mvC g w.1 code t))) (colC g w.1 code)) free worth = K (nI code) (nI (mvC g w.1 code t)) (nI (skA g w.1 (colC g w.1 code) (mvC g w.1 code t) k && noM g (colC g w.1 code) (mvC g w.1 code t) (fs g w.1 k) (pP g)).toNat) (nI (!skB g wi w.1 (colC g w.1 code) (mvC g w.1 code t) k || !noG g wi (colC g w.1 code) (mvC g w.1 code t) (fs g w.1 k) (pP g)).toNat) C (nI (k + 1)) (nI (bc g w.1)) (WS (upd s0 239 (nI (mvC g w.1 code t))) (colC g w.1 code)) free worth := by
      intro is C his
      unfold fX10_plays_109 lX10_plays_114
      cases is with
      | true =>
        have hz : colC g w.1 code (fs g w.1 k) = 0 := of_decide_eq_true his.symm
        have h := plays_in hg hM hc hl (wi := wi) hS (show 10 ≤ F by omega) ht hcode (show k < bc g w.1 by omega) hz hfr hwo (p1of wi) C K22 K (pP g) 0 (skA g w.1 (colC g w.1 code) (mvC g w.1 code t) k) (!skB g wi w.1 (colC g w.1 code) (mvC g w.1 code t) k) (by omega) F (by omega)
        rw [show noM g (colC g w.1 code) (mvC g w.1 code t) (fs g w.1 k) 0 = true from rfl, show noG g wi (colC g w.1 code) (mvC g w.1 code t) (fs g w.1 k) 0 = true from rfl, Bool.and_true, Bool.not_true, Bool.or_false] at h
        exact h
      | false =>
        have hz : colC g w.1 code (fs g w.1 k) ≠ 0 := of_decide_eq_false his.symm
        obtain ⟨F', rfl⟩ : ∃ F', F = F' + 1 := ⟨F - 1, by omega⟩
        rw [jl_loop12_s, noM_bare hz, noG_bare hg a hz hP, Bool.and_true, Bool.not_true, Bool.or_false]
        unfold bX10_plays_114
        rw [c2, hM.2.1.2.2, if_neg (by rw [show (1 : Int32) = nI 1 from rfl, nI_ltI (by omega) (by omega)]; omega), if_pos (show nI false.toNat = 0 from rfl), jl_let_eq, show nI k + Int32.ofInt 1 = nI (k + 1) from nI_add k 1]
    have h92 : ∀ (is : Bool), is = decide (colC g w.1 code (fs g w.1 k) = 0) → fX10_plays_92 F stones told touches has beside (p1of wi) K22 K (nI code) (nI (mvC g w.1 code t)) (nI (skA g w.1 (colC g w.1 code) (mvC g w.1 code t) k).toNat) (nI (!skB g wi w.1 (colC g w.1 code) (mvC g w.1 code t) k).toNat) (nI (skC g w.1 (colC g w.1 code) k).toNat) (nI k) (nI is.toNat) (nI (bc g w.1)) (WS (upd s0 239 (nI (mvC g w.1 code t))) (colC g w.1 code)) free worth = K (nI code) (nI (mvC g w.1 code t)) (nI (skA g w.1 (colC g w.1 code) (mvC g w.1 code t) k && noM g (colC g w.1 code) (mvC g w.1 code t) (fs g w.1 k) (pP g)).toNat) (nI (!skB g wi w.1 (colC g w.1 code) (mvC g w.1 code t) k || !noG g wi (colC g w.1 code) (mvC g w.1 code t) (fs g w.1 k) (pP g)).toNat) (nI (skC g w.1 (colC g w.1 code) k && !is).toNat) (nI (k + 1)) (nI (bc g w.1)) (WS (upd s0 239 (nI (mvC g w.1 code t))) (colC g w.1 code)) free worth := by
      intro is his
      unfold fX10_plays_92 fX10_plays_108
      rw [h109 is 0 his, h109 is 1 his]
      generalize skC g w.1 (colC g w.1 code) k = Z
      cases Z with
      | false => rw [if_pos (show nI false.toNat = 0 from rfl)]; rfl
      | true =>
        rw [if_neg (show ¬ nI true.toNat = 0 by decide)]
        cases is with
        | false => rw [if_pos (show nI false.toNat = 0 from rfl)]; rfl
        | true => rw [if_neg (show ¬ nI true.toNat = 0 by decide)]; rfl
    unfold bX10_plays_59
    have hsl : WS (upd s0 239 (nI (mvC g w.1 code t))) (colC g w.1 code) (220 + fs g w.1 k) = nI (colC g w.1 code (fs g w.1 k)) := WS_in (by omega)
    rw [if_neg (by rw [nI_leI (by omega) (by omega)]; omega), nI_clamp (by omega), if_neg (by
      rintro (q | q)
      · exact nI_pos (by omega) q
      · omega), hfr k (by omega), show (220 : Int32) = nI 220 from rfl, nI_add, nI_clamp (by omega), if_neg (by
      rintro (q | q)
      · exact nI_pos (by omega) q
      · omega), hsl]
    by_cases hz : colC g w.1 code (fs g w.1 k) = 0
    · rw [if_pos (by rw [hz]; rfl)]
      refine Eq.trans (h92 true (decide_eq_true hz).symm) ?_
      rw [decide_eq_false (show ¬ colC g w.1 code (fs g w.1 k) ≠ 0 from fun q => q hz)] at hr
      exact hr
    · rw [if_neg (by rw [show (0 : Int32) = nI 0 from rfl, nI_eq (by omega) (by omega)]; exact hz)]
      refine Eq.trans (h92 false (decide_eq_false hz).symm) ?_
      rw [decide_eq_true (show colC g w.1 code (fs g w.1 k) ≠ 0 from hz)] at hr
      exact hr
