/-! the lowest painting that wins: the class -/
/-- r tells the first stone and paint of f, or that there is none -/
def FG (f : Nat → Nat → Bool) (r : Int32) : Prop := ((∀ s p, s < 9 → 1 ≤ p → p ≤ 3 → f s p = false) ∧ r = -4) ∨ ∃ s p, s < 9 ∧ 1 ≤ p ∧ p ≤ 3 ∧ f s p = true ∧ (∀ s' p', s' < 9 → 1 ≤ p' → p' ≤ 3 → (s' < s ∨ (s' = s ∧ p' < p)) → f s' p' = false) ∧ r = nI (10 * s + p)
theorem FG_one {f : Nat → Nat → Bool} {r r' : Int32} (h : FG f r) (h' : FG f r') : r = r' := by
  rcases h with ⟨h1, h2⟩ | ⟨s, p, s9, p1, p3, h1, h2, h3⟩
  · rcases h' with ⟨-, h2'⟩ | ⟨s', p', s9', p1', p3', h1', -, -⟩
    · rw [h2, h2']
    · rw [h1 s' p' s9' p1' p3'] at h1'; cases h1'
  · rcases h' with ⟨h1', -⟩ | ⟨s', p', s9', p1', p3', h1', h2', h3'⟩
    · rw [h1' s p s9 p1 p3] at h1; cases h1
    · have : s = s' ∧ p = p' := by
        rcases Nat.lt_trichotomy s s' with q | q | q
        · rw [h2' s p s9 p1 p3 (Or.inl q)] at h1; cases h1
        · rcases Nat.lt_trichotomy p p' with z | z | z
          · rw [h2' s p s9 p1 p3 (Or.inr ⟨q, z⟩)] at h1; cases h1
          · exact ⟨q, z⟩
          · rw [h2 s' p' s9' p1' p3' (Or.inr ⟨q.symm, z⟩)] at h1'; cases h1'
        · rw [h2 s' p' s9' p1' p3' (Or.inl q)] at h1'; cases h1'
      rw [h3, h3', this.1, this.2]
theorem FG_none {f : Nat → Nat → Bool} {r : Int32} (h : FG f r) : r = -4 ↔ ∀ s p, s < 9 → 1 ≤ p → p ≤ 3 → f s p = false := by
  rcases h with ⟨h1, h2⟩ | ⟨s, p, s9, p1, p3, h1, h2, h3⟩
  · exact ⟨fun _ => h1, fun _ => h2⟩
  · constructor
    · intro e
      rw [h3] at e
      have := congrArg Int32.toInt e
      rw [nI_toInt (by omega), show ((-4 : Int32)).toInt = -4 from by decide] at this
      omega
    · intro h; rw [h s p s9 p1 p3] at h1; cases h1
/-- a painting by which he wins -/
def good (g : JP) (wi : Nat) (c : Nat → Nat) (t s p : Nat) : Bool := (chS g c t).testBit (9 * (p - 1) + s) && !RR g wi 9 (upc c s p) (1 - t)
theorem good_lose {g : JP} {wi : Nat} {c : Nat → Nat} {t s p : Nat} (hs : s < 9) (h1 : 1 ≤ p) : good g wi c t s p = !lose g wi c t (9 * (p - 1) + s) := by
  unfold good lose
  rw [show (9 * (p - 1) + s) % 9 = s by omega, show (9 * (p - 1) + s) / 9 + 1 = p by omega]
  generalize (chS g c t).testBit (9 * (p - 1) + s) = a
  generalize RR g wi 9 (upc c s p) (1 - t) = b
  cases a <;> cases b <;> rfl
/-- he has his will, or nobody is to pay: as there is a painting by which he wins -/
theorem RR_good {g : JP} (hg : GOK g) {wi : Nat} {c : Nat → Nat} {t : Nat} (hz : chS g c t ≠ 0) : RR g wi 9 c t = false ↔ ∀ s p, s < 9 → 1 ≤ p → p ≤ 3 → good g wi c t s p = false := by
  rw [RR_eq hg, if_neg hz]
  show (!jall (lose g wi c t) 27) = false ↔ _
  rw [Bool.not_eq_false', jall_iff]
  constructor
  · intro h s p s9 p1 p3
    rw [good_lose s9 p1, h _ (by omega)]; rfl
  · intro h i hi
    have := h (i % 9) (i / 9 + 1) (by omega) (by omega) (by omega)
    rw [good_lose (by omega) (by omega), show 9 * (i / 9 + 1 - 1) + i % 9 = i by omega] at this
    simpa using this
theorem good_stuck {g : JP} {wi : Nat} {c : Nat → Nat} {t : Nat} (hz : chS g c t = 0) (s p : Nat) : good g wi c t s p = false := by
  unfold good
  rw [hz, Nat.zero_testBit]; rfl
theorem low_in {g : JP} (hg : GOK g) {all fc fit pg0 pg1 : Int32} {ro : Nat → Int32} (hX : XS g all fc fit pg0 pg1 ro) {wi : Nat} (hw : wi ≤ 2) {c : Nat → Nat} (hc : CG g c) {t F s : Nat} (ht : t ≤ 1) (hF : 28 ≤ F) (hs : s < 9) (shut worn : Int32)
    (hpre : ∀ s' p', s' < s → 1 ≤ p' → p' ≤ 3 → good g wi c t s' p' = false) :
    ∀ m p (known : Nat → Int32), p + m = 4 → 1 ≤ p → (∀ p', 1 ≤ p' → p' < p → good g wi c t s p' = false) → MemOK g known → ∃ kn, MemOK g kn ∧ ((∃ r, FG (good g wi c t) r ∧ ∀ K f, m < f → jl_loop6 (bX0_lowestGood_38 F shut all fit pg0 pg1 ro (nI wi) worn (nI t) K) f (nI (mS g c)) (nI (bareS g c)) (nI (chS g c t)) (nI s) (nI p) known = some (r, kn)) ∨ ((∀ p', 1 ≤ p' → p' ≤ 3 → good g wi c t s p' = false) ∧ ∀ K f, m < f → jl_loop6 (bX0_lowestGood_38 F shut all fit pg0 pg1 ro (nI wi) worn (nI t) K) f (nI (mS g c)) (nI (bareS g c)) (nI (chS g c t)) (nI s) (nI p) known = K (nI (mS g c)) (nI (bareS g c)) (nI (chS g c t)) (nI (s + 1)) kn)) := by
  have hch := chS_lt31 g c t
  intro m
  induction m with
  | zero =>
    intro p known hp h1 hbef hM
    refine ⟨known, hM, Or.inr ⟨fun p' a b => hbef p' a (by omega), fun K f hf => ?_⟩⟩
    obtain ⟨f', rfl⟩ : ∃ f', f = f' + 1 := ⟨f - 1, by omega⟩
    rw [jl_loop6_s]; unfold bX0_lowestGood_38
    rw [if_pos (by rw [show (3 : Int32) = nI 3 from rfl, nI_ltI (by omega) (by omega)]; omega), jl_let_eq, show nI s + Int32.ofInt 1 = nI (s + 1) from nI_add s 1]
  | succ m ih =>
    intro p known hp h1 hbef hM
    have hpt := x_painting hs h1 (show p ≤ 3 by omega)
    have hbit := fa_bit (n := chS g c t) (j := 9 * (p - 1) + s) (by omega)
    have hone : nI p + Int32.ofInt 1 = nI (p + 1) := nI_add p 1
    have hn3 : ¬ (3 : Int32) < nI p := by rw [show (3 : Int32) = nI 3 from rfl, nI_ltI (by omega) (by omega)]; omega
    have next : ∀ kn1, MemOK g kn1 → good g wi c t s p = false → (∀ (K : Int32 → Int32 → Int32 → Int32 → (Nat → Int32) → Option (Int32 × (Nat → Int32))) (L : Int32 → Int32 → Int32 → Int32 → Int32 → (Nat → Int32) → Option (Int32 × (Nat → Int32))), bX0_lowestGood_38 F shut all fit pg0 pg1 ro (nI wi) worn (nI t) K L (nI (mS g c)) (nI (bareS g c)) (nI (chS g c t)) (nI s) (nI p) known = L (nI (mS g c)) (nI (bareS g c)) (nI (chS g c t)) (nI s) (nI (p + 1)) kn1) → ∃ kn, MemOK g kn ∧ ((∃ r, FG (good g wi c t) r ∧ ∀ K f, m + 1 < f → jl_loop6 (bX0_lowestGood_38 F shut all fit pg0 pg1 ro (nI wi) worn (nI t) K) f (nI (mS g c)) (nI (bareS g c)) (nI (chS g c t)) (nI s) (nI p) known = some (r, kn)) ∨ ((∀ p', 1 ≤ p' → p' ≤ 3 → good g wi c t s p' = false) ∧ ∀ K f, m + 1 < f → jl_loop6 (bX0_lowestGood_38 F shut all fit pg0 pg1 ro (nI wi) worn (nI t) K) f (nI (mS g c)) (nI (bareS g c)) (nI (chS g c t)) (nI s) (nI p) known = K (nI (mS g c)) (nI (bareS g c)) (nI (chS g c t)) (nI (s + 1)) kn)) := by
      intro kn1 hM1 hgd hstep
      obtain ⟨kn, k1, k2⟩ := ih (p + 1) kn1 (by omega) (by omega) (fun p' a b => by
        by_cases e : p' = p
        · rw [e]; exact hgd
        · exact hbef p' a (by omega)) hM1
      refine ⟨kn, k1, ?_⟩
      rcases k2 with ⟨r, r1, r2⟩ | ⟨r1, r2⟩
      · refine Or.inl ⟨r, r1, fun K f hf => ?_⟩
        obtain ⟨f', rfl⟩ : ∃ f', f = f' + 1 := ⟨f - 1, by omega⟩
        rw [jl_loop6_s, hstep]
        exact r2 K f' (by omega)
      · refine Or.inr ⟨r1, fun K f hf => ?_⟩
        obtain ⟨f', rfl⟩ : ∃ f', f = f' + 1 := ⟨f - 1, by omega⟩
        rw [jl_loop6_s, hstep]
        exact r2 K f' (by omega)
    cases hb : (chS g c t).testBit (9 * (p - 1) + s) with
    | false =>
      refine next known hM (by unfold good; rw [hb]; rfl) (fun K L => ?_)
      unfold bX0_lowestGood_38
      rw [if_neg hn3, hpt, Option.bind_some, if_pos (hbit.mpr hb), jl_let_eq, hone]
    | true =>
      obtain ⟨q1, q2, q3, q4, q5⟩ := ch_of hb
      rw [show (9 * (p - 1) + s) % 9 = s by omega] at q2 q3
      have hbu := bc_upc (g := g) (p := p) q2 h1 q3
      have hb9 := bc_le hg c
      have hfa : fX3_fittingAfter ro (nI (mS g c)) (nI (2 ^ (9 * (p - 1) + s))) = some (nI (mS g (upc c s p))) := x_fitAfterM hg hX (q := canS g 0 ||| canS g 1) q2 h1 (by omega) q3
      have hbb : nI (bareS g c) &&& (((1 : Int32) <<< (nI s &&& 31)) ^^^ (-1 : Int32)) = nI (bareS g (upc c s p)) := by
        rw [one_shl (by omega), ni_m1, ni_adn, bare_upc q2 h1 hg.2.2.1]
      have h1t : (1 : Int32) - nI t = nI (1 - t) := pk_sub (a := 1) ht
      obtain ⟨kn1, c1, c2⟩ := x_wins hg hX hw hF (bc g (upc c s p)) (upc c s p) (1 - t) 11 1 known rfl (by omega) (by omega) (hc.pc q2 q3 (by omega)) (by omega) hM
      have step : ∀ (K : Int32 → Int32 → Int32 → Int32 → (Nat → Int32) → Option (Int32 × (Nat → Int32))) (L : Int32 → Int32 → Int32 → Int32 → Int32 → (Nat → Int32) → Option (Int32 × (Nat → Int32))), bX0_lowestGood_38 F shut all fit pg0 pg1 ro (nI wi) worn (nI t) K L (nI (mS g c)) (nI (bareS g c)) (nI (chS g c t)) (nI s) (nI p) known = if RR g wi 9 (upc c s p) (1 - t) = false then some (nI (10 * s + p), kn1) else L (nI (mS g c)) (nI (bareS g c)) (nI (chS g c t)) (nI s) (nI (p + 1)) kn1 := by
        intro K L
        unfold bX0_lowestGood_38
        rw [if_neg hn3, hpt, Option.bind_some, if_neg (fun e => by rw [hbit.mp e] at hb; cases hb), hfa, Option.bind_some, hbb, h1t, show (1 : Int32) = nI 1 from rfl, c1, Option.bind_some]
        dsimp only
        rw [jl_let_eq, hone, show (10 : Int32) = nI 10 from rfl, pk_mul, nI_add]
        cases RR g wi 9 (upc c s p) (1 - t)
        · rw [if_pos (show nI false.toNat = 0 from rfl), if_pos rfl]
        · rw [if_neg (show ¬ nI true.toNat = 0 by decide), if_neg (show ¬ true = false by decide)]
      cases hR : RR g wi 9 (upc c s p) (1 - t) with
      | false =>
        refine ⟨kn1, c2, Or.inl ⟨nI (10 * s + p), Or.inr ⟨s, p, hs, h1, by omega, by unfold good; rw [hb, hR]; rfl, fun s' p' a b d h => ?_, rfl⟩, fun K f hf => ?_⟩⟩
        · rcases h with h | ⟨rfl, h⟩
          · exact hpre s' p' h b d
          · exact hbef p' b h
        · obtain ⟨f', rfl⟩ : ∃ f', f = f' + 1 := ⟨f - 1, by omega⟩
          rw [jl_loop6_s, step, if_pos hR]
      | true =>
        refine next kn1 c2 (by unfold good; rw [hR, Bool.not_true, Bool.and_false]) (fun K L => ?_)
        rw [step, if_neg (by rw [hR]; decide)]
theorem low_out {g : JP} (hg : GOK g) {all fc fit pg0 pg1 : Int32} {ro : Nat → Int32} (hX : XS g all fc fit pg0 pg1 ro) {wi : Nat} (hw : wi ≤ 2) {c : Nat → Nat} (hc : CG g c) {t F : Nat} (ht : t ≤ 1) (hF : 28 ≤ F) (shut worn : Int32) :
    ∀ m s (known : Nat → Int32), s + m = 9 → (∀ s' p', s' < s → 1 ≤ p' → p' ≤ 3 → good g wi c t s' p' = false) → MemOK g known → ∃ r kn, FG (good g wi c t) r ∧ MemOK g kn ∧ ∀ f, m < f → jl_loop5 (bX0_lowestGood_28 F shut all fit pg0 pg1 ro (nI wi) worn (nI t)) f (nI (mS g c)) (nI (bareS g c)) (nI (chS g c t)) (nI s) known = some (r, kn) := by
  intro m
  induction m with
  | zero =>
    intro s known hs hpre hM
    refine ⟨-4, known, Or.inl ⟨fun s' p' a b d => hpre s' p' (by omega) b d, rfl⟩, hM, fun f hf => ?_⟩
    obtain ⟨f', rfl⟩ : ∃ f', f = f' + 1 := ⟨f - 1, by omega⟩
    rw [jl_loop5_s]; unfold bX0_lowestGood_28
    rw [if_pos (by rw [show (9 : Int32) = nI 9 from rfl, nI_leI (by omega) (by omega)]; omega)]
  | succ m ih =>
    intro s known hs hpre hM
    have hn9 : ¬ (9 : Int32) ≤ nI s := by rw [show (9 : Int32) = nI 9 from rfl, nI_leI (by omega) (by omega)]; omega
    obtain ⟨kn1, k1, k2⟩ := low_in hg hX hw hc ht hF (show s < 9 by omega) shut worn hpre 3 1 known (by omega) (by omega) (fun p' a b => by omega) hM
    rcases k2 with ⟨r, r1, r2⟩ | ⟨r1, r2⟩
    · refine ⟨r, kn1, r1, k1, fun f hf => ?_⟩
      obtain ⟨f', rfl⟩ : ∃ f', f = f' + 1 := ⟨f - 1, by omega⟩
      rw [jl_loop5_s]; unfold bX0_lowestGood_28 lX0_lowestGood_38
      rw [if_neg hn9]
      exact r2 _ F (by omega)
    · obtain ⟨r, kn, h1, h2, h3⟩ := ih (s + 1) kn1 (by omega) (fun s' p' a b d => by
        by_cases e : s' = s
        · rw [e]; exact r1 p' b d
        · exact hpre s' p' (by omega) b d) k1
      refine ⟨r, kn, h1, h2, fun f hf => ?_⟩
      obtain ⟨f', rfl⟩ : ∃ f', f = f' + 1 := ⟨f - 1, by omega⟩
      rw [jl_loop5_s]; unfold bX0_lowestGood_28 lX0_lowestGood_38
      rw [if_neg hn9]
      exact Eq.trans (r2 _ F (by omega)) (h3 f' (by omega))
theorem x_some {g : JP} (hg : GOK g) {all fc fit pg0 pg1 : Int32} {ro : Nat → Int32} (hX : XS g all fc fit pg0 pg1 ro) {c : Nat → Nat} (hc : CG g c) {F : Nat} (hF : 29 ≤ F) : fX0_fittingForSome F fit pg0 pg1 ro (nI (wornS c)) = some (nI (mS g c)) := by
  unfold fX0_fittingForSome
  rw [x_fitting hg hX hc hF, Option.bind_some, show (0 : Int32) = nI 0 from rfl, x_pgs hX (by omega), Option.bind_some, show (1 : Int32) = nI 1 from rfl, x_pgs hX (by omega), Option.bind_some, ni_or, ni_and]; rfl
theorem x_lowestGood {g : JP} (hg : GOK g) {all fc fit pg0 pg1 : Int32} {ro : Nat → Int32} (hX : XS g all fc fit pg0 pg1 ro) {wi : Nat} (hw : wi ≤ 2) {c : Nat → Nat} (hc : CG g c) {t F : Nat} (ht : t ≤ 1) (hF : 29 ≤ F) {known : Nat → Int32} (hM : MemOK g known) : ∃ r kn, fX0_lowestGood F known (nI (nb 9 (fun s => decide (pO g s = 9)))) all fit pg0 pg1 ro (nI wi) (nI (wornS c)) (nI t) = some (r, kn) ∧ FG (good g wi c t) r ∧ MemOK g kn := by
  obtain ⟨r, kn, h1, h2, h3⟩ := low_out hg hX hw hc ht (show 28 ≤ F by omega) (nI (nb 9 (fun s => decide (pO g s = 9)))) (nI (wornS c)) 9 0 known (by omega) (fun s' p' h => absurd h (Nat.not_lt_zero s')) hM
  refine ⟨r, kn, ?_, h1, h2⟩
  have hb := x_bare hg hc
  rw [← hX.1] at hb
  unfold fX0_lowestGood lX0_lowestGood_28
  rw [x_some hg hX hc hF, Option.bind_some, hb, Option.bind_some, x_pgs hX ht, Option.bind_some, ni_and, mS_can hg hc ht, jl_let_eq]
  exact h3 F (by omega)
theorem x_getsHisWill {g : JP} (hg : GOK g) {all fc fit pg0 pg1 : Int32} {ro : Nat → Int32} (hX : XS g all fc fit pg0 pg1 ro) {wi : Nat} (hw : wi ≤ 2) {c : Nat → Nat} (hc : CG g c) {t F : Nat} (ht : t ≤ 1) (hF : 29 ≤ F) {known : Nat → Int32} (hM : MemOK g known) : ∃ kn, fX0_getsHisWill F known (nI (nb 9 (fun s => decide (pO g s = 9)))) all fit pg0 pg1 ro (nI wi) (nI (wornS c)) (nI t) = some (nI (RR g wi 9 c t).toNat, kn) ∧ MemOK g kn := by
  have hb9 := bc_le hg c
  obtain ⟨kn, h1, h2⟩ := x_wins hg hX hw (show 28 ≤ F by omega) (bc g c) c t 11 0 known rfl (by omega) (by omega) hc ht hM
  refine ⟨kn, ?_, h2⟩
  have hb := x_bare hg hc
  rw [← hX.1] at hb
  unfold fX0_getsHisWill
  rw [x_some hg hX hc hF, Option.bind_some, hb, Option.bind_some, show (0 : Int32) = nI 0 from rfl, h1, Option.bind_some]
  cases RR g wi 9 c t <;> rfl
