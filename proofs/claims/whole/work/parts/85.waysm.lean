/-! the reference's search: all ways, one behind the other -/
/-- a wall in the slot that is tried -/
def WS (s0 : Nat → Int32) (c : Nat → Nat) : Nat → Int32 := fun i => if 220 ≤ i ∧ i < 229 then nI (c (i - 220)) else s0 i
theorem WS_in {s0 : Nat → Int32} {c : Nat → Nat} {s : Nat} (hs : s < 9) : WS s0 c (220 + s) = nI (c s) := by
  unfold WS; rw [if_pos (by omega), Nat.add_sub_cancel_left]
theorem WS_SC (s0 : Nat → Int32) (c : Nat → Nat) : SC (WS s0 c) 11 c := fun s hs => WS_in hs
theorem WS_upd {s0 : Nat → Int32} {c : Nat → Nat} {s p : Nat} (hs : s < 9) : upd (WS s0 c) (220 + s) (nI p) = WS s0 (upc c s p) := by
  funext i
  unfold WS upc
  by_cases e : i = 220 + s
  · rw [upd_s e, if_pos (by omega), if_pos (by omega)]
  · rw [upd_n e]
    by_cases h : 220 ≤ i ∧ i < 229
    · rw [if_pos h, if_pos h, if_neg (by omega)]
    · rw [if_neg h, if_neg h]
theorem WS_self {slot : Nat → Int32} {c : Nat → Nat} (h : SC slot 11 c) : WS slot c = slot := by
  funext i
  unfold WS
  split
  · have := h (i - 220) (by omega)
    have e : 20 * 11 + (i - 220) = i := by omega
    rw [e] at this
    exact this.symm
  · rfl
theorem WS_kept {s0 : Nat → Int32} {c : Nat → Nat} {j : Nat} (h : j < 220 ∨ 229 ≤ j) : WS s0 c j = s0 j := by
  unfold WS; rw [if_neg (by omega)]
theorem upc_upc (c : Nat → Nat) (s p q : Nat) : upc (upc c s p) s q = upc c s q := by
  funext t; unfold upc; split <;> rfl
theorem upc_self {c : Nat → Nat} {s p : Nat} (h : c s = p) : upc c s p = c := by
  funext t; unfold upc; split
  · next e => rw [e, h]
  · rfl
theorem well_self {g : JP} {c : Nat → Nat} {s p q : Nat} : wellA g (upc c s p) s q = wellA g c s q := by
  unfold wellA
  refine jall_cong (fun t _ => ?_)
  unfold wf upc
  by_cases e : t = s
  · subst e; rw [adj_irr]; rfl
  · rw [if_neg e]
theorem COK.pc {c : Nat → Nat} (h : COK c) {s p : Nat} (hp : p ≤ 3) : COK (upc c s p) := by
  intro t
  show upc c s p t ≤ 3 ∨ upc c s p t = 9
  unfold upc; split
  · left; exact hp
  · exact h t
theorem freed_ok {n : Nat} (h9 : n ≤ 9) {slot : Nat → Int32} {c : Nat → Nat} (hS : SC slot 11 c) (hc : COK c) {fr0 : Int32} {free0 : Nat → Int32} {F : Nat} (hF : 10 ≤ F) : ∃ free', fX10_freed F (nI n) fr0 slot free0 = some (nI (zl c n 0).length, free') ∧ ∀ i, i < (zl c n 0).length → free' i = nI ((zl c n 0).getD i 0) := by
  have key : ∀ m t (pre : List Nat) (free : Nat → Int32), t + m = n → pre ++ zl c m t = zl c n 0 → (∀ i, i < pre.length → free i = nI (pre.getD i 0)) → ∃ free', (∀ f, m < f → jl_loop3 (bX10_freed_7 F (nI n) slot) f (nI t) (nI pre.length) free = some (nI (zl c n 0).length, free')) ∧ ∀ i, i < (zl c n 0).length → free' i = nI ((zl c n 0).getD i 0) := by
    intro m
    induction m with
    | zero =>
      intro t pre free ht hp hf
      have hp : pre ++ [] = zl c n 0 := hp
      rw [List.append_nil] at hp
      subst hp
      refine ⟨free, fun f hf' => ?_, hf⟩
      obtain ⟨f', rfl⟩ : ∃ f', f = f' + 1 := ⟨f - 1, by omega⟩
      rw [jl_loop3_s]; unfold bX10_freed_7
      rw [if_pos (by rw [nI_leI (by omega) (by omega)]; omega)]
    | succ m ih =>
      intro t pre free ht hp hf
      have hlen : pre.length + (zl c (m + 1) t).length = (zl c n 0).length := by rw [← hp, List.length_append]
      have hl9 := zl_len (c := c) n 0
      have hS' := hS t (by omega)
      have ha : (220 : Int32) + nI t = nI (220 + t) := nI_add 220 t
      have hone : nI t + Int32.ofInt 1 = nI (t + 1) := nI_add t 1
      have a1 : ¬ (nI (220 + t) < 0 ∨ 240 ≤ 220 + t) := by
        rintro (q | q)
        · exact nI_pos (by omega) q
        · omega
      have hst := hc t
      simp only [zl] at hp hlen
      by_cases e : c t = 0
      · rw [if_pos e] at hp hlen
        rw [List.length_cons] at hlen
        obtain ⟨free', f1, f2⟩ := ih (t + 1) (pre ++ [t]) (upd free pre.length (nI t)) (by omega) (by rw [List.append_assoc]; exact hp) (fun i hi => by
          rw [List.length_append, List.length_singleton] at hi
          rw [List.getD_eq_getElem?_getD]
          by_cases q : i = pre.length
          · rw [upd_s q, List.getElem?_append_right (by omega), q, Nat.sub_self]; rfl
          · rw [upd_n q, List.getElem?_append_left (by omega), ← List.getD_eq_getElem?_getD]; exact hf i (by omega))
        refine ⟨free', fun f hf' => ?_, f2⟩
        obtain ⟨f', rfl⟩ : ∃ f', f = f' + 1 := ⟨f - 1, by omega⟩
        have hr := f1 f' (by omega)
        rw [jl_loop3_s]
        generalize jl_loop3 (bX10_freed_7 F (nI n) slot) f' = K at hr ⊢
        unfold bX10_freed_7
        rw [if_neg (by rw [nI_leI (by omega) (by omega)]; omega), ha, nI_clamp (by omega), if_neg a1, hS', e, if_00, nI_clamp (by omega), if_neg (by
          rintro (q | q)
          · exact nI_pos (by omega) q
          · omega)]
        simp only [jl_let_eq]
        rw [hone, show (1 : Int32) = nI 1 from rfl, nI_add]
        rw [List.length_append, List.length_singleton] at hr
        exact hr
      · rw [if_neg e] at hp
        obtain ⟨free', f1, f2⟩ := ih (t + 1) pre free (by omega) hp hf
        refine ⟨free', fun f hf' => ?_, f2⟩
        obtain ⟨f', rfl⟩ : ∃ f', f = f' + 1 := ⟨f - 1, by omega⟩
        have hr := f1 f' (by omega)
        rw [jl_loop3_s]
        generalize jl_loop3 (bX10_freed_7 F (nI n) slot) f' = K at hr ⊢
        unfold bX10_freed_7
        rw [if_neg (by rw [nI_leI (by omega) (by omega)]; omega), ha, nI_clamp (by omega), if_neg a1, hS', if_neg (by rw [show (0 : Int32) = nI 0 from rfl, nI_eq (by omega) (by omega)]; exact e)]
        simp only [jl_let_eq]
        rw [hone]
        exact hr
  obtain ⟨free', f1, f2⟩ := key n 0 [] free0 (by omega) rfl (fun i hi => absurd hi (Nat.not_lt_zero i))
  exact ⟨free', f1 F (by omega), f2⟩
theorem many_ok {m F : Nat} (hm : m < 2 ^ 31) (hF : 10 ≤ F) : fX10_many F (nI m) = some (nI (fb_ct m.testBit 9)) := by
  unfold fX10_many lX10_many_4
  refine jl_run2 (fun d x y => ∃ t, y = nI t ∧ t + d = 9 ∧ x = nI (fb_ct m.testBit t)) ?_ F 9 _ _ ⟨0, rfl, rfl, rfl⟩ (by omega)
  rintro d x y ⟨t, rfl, hd, rfl⟩
  rcases Nat.eq_zero_or_pos d with h0 | h0
  · left; intro k
    have : t = 9 := by omega
    subst this
    unfold bX10_many_4
    rw [if_pos (by decide)]
  · right
    refine ⟨d - 1, _, _, by omega, ⟨t + 1, rfl, by omega, rfl⟩, ?_⟩
    intro k
    unfold bX10_many_4
    have a0 : ¬ 9 ≤ t := by omega
    simp (disch := omega) only [fa_lit, ni_bit, b2n_0, b2n_1, ni_m1, ni_of1, ni_ofm1, nI_add, pk_mul, nI_clamp, ni_lt, ni_le, ni_eq, ni_l, fa_litL, ln_le, ln_lt, ln_eq, jl_let_eq, Option.bind_some, ↓reduceIte, a0]
    congr 2
    rw [fb_ct_succ]
    cases m.testBit t <;> rfl
/-- which paints are on a wall, how many -/
def usd (c : Nat → Nat) (p n : Nat) : Bool := !jall (fun s => !decide (c s = p)) n
theorem usd_iff {c : Nat → Nat} {p n : Nat} : usd c p n = true ↔ ∃ s, s < n ∧ c s = p := by
  unfold usd
  rw [Bool.not_eq_true', ← Bool.not_eq_true, jall_iff]
  constructor
  · intro h
    apply Classical.byContradiction
    intro h2
    exact h (fun i hi => by
      rw [Bool.not_eq_true', decide_eq_false_iff_not]
      exact fun e => h2 ⟨i, hi, e⟩)
  · rintro ⟨s, h1, h2⟩ h
    have := h s h1
    rw [h2] at this
    simp at this
def unl (g : JP) (c : Nat → Nat) : Nat := fb_ct (nb 4 (fun p => decide (1 ≤ p) && usd c p (pn g))).testBit 9
theorem unl_le (g : JP) (c : Nat → Nat) : unl g c ≤ 9 := fb_ct_le _ _
theorem unlikes_ok {g : JP} (hg : GOK g) {slot : Nat → Int32} {c : Nat → Nat} (hS : SC slot 11 c) (hc : COK c) {F : Nat} (hF : 10 ≤ F) : fX10_unlikes F (nI (pn g)) slot = some (nI (unl g c)) := by
  have hn := hg.2.2.1
  unfold fX10_unlikes lX10_unlikes_4
  refine jl_run2 (fun d x y => ∃ t, y = nI t ∧ t + d = pn g ∧ x = nI (nb 4 (fun p => decide (1 ≤ p) && usd c p t))) ?_ F (pn g) _ _ ⟨0, rfl, by omega, by rw [nb_cong (g := fun _ => false) (fun p _ => by simp [usd, jall])]; rfl⟩ (by omega)
  rintro d x y ⟨t, rfl, hd, rfl⟩
  rcases Nat.eq_zero_or_pos d with h0 | h0
  · left; intro k
    have : t = pn g := by omega
    subst this
    unfold bX10_unlikes_4
    rw [if_pos (by rw [nI_leI (by omega) (by omega)]; exact Nat.le_refl _), many_ok (nb_lt31 (by omega) _) hF]; rfl
  · right
    refine ⟨d - 1, _, _, by omega, ⟨t + 1, rfl, by omega, rfl⟩, ?_⟩
    intro k
    unfold bX10_unlikes_4 fX10_unlikes_43
    have e1 := hS t (by omega)
    have hct := hc t
    have a1 : ¬ (nI (220 + t) < 0 ∨ 240 ≤ 220 + t) := by
      rintro (q | q)
      · exact nI_pos (by omega) q
      · omega
    have ha : (220 : Int32) + nI t = nI (220 + t) := nI_add 220 t
    have hone : nI t + Int32.ofInt 1 = nI (t + 1) := nI_add t 1
    have e3 : fX10_in (nI (c t)).toInt64 (1 : Int64) (3 : Int64) = some (nI (decide (1 ≤ c t) && decide (c t ≤ 3)).toNat) := in1 (P := 3) (by omega) (by omega)
    rw [if_neg (by rw [nI_leI (by omega) (by omega)]; omega), ha, nI_clamp (by omega), if_neg a1, e1, jl_let_eq, e3, Option.bind_some]
    simp only [jl_let_eq, hone]
    by_cases hz : 1 ≤ c t ∧ c t ≤ 3
    · have : (decide (1 ≤ c t) && decide (c t ≤ 3)) = true := by simp [hz.1, hz.2]
      rw [this, if_t, one_shl (by omega), ni_or]
      refine congrArg (fun z => k (nI z) (nI (t + 1))) (nb_ext (Nat.or_lt_two_pow (nb_lt 4 _) (Nat.pow_lt_pow_right (by omega) (by omega))) (fun p hp => ?_))
      rw [Nat.testBit_or, nb_tb, Nat.testBit_two_pow]
      apply Bool.eq_iff_iff.mpr
      simp only [hp, decide_true, Bool.true_and, Bool.or_eq_true, Bool.and_eq_true, decide_eq_true_eq, usd_iff]
      constructor
      · rintro (⟨h1, s, h2, h3⟩ | rfl)
        · exact ⟨h1, s, by omega, h3⟩
        · exact ⟨hz.1, t, by omega, rfl⟩
      · rintro ⟨h1, s, h2, h3⟩
        by_cases e : s = t
        · subst e; exact Or.inr h3
        · exact Or.inl ⟨h1, s, by omega, h3⟩
    · have : (decide (1 ≤ c t) && decide (c t ≤ 3)) = false := by
        rw [Bool.and_eq_false_iff]; simp only [decide_eq_false_iff_not]; omega
      rw [this, if_f, show (0 : Int32) = nI 0 from rfl, ni_or, Nat.or_zero]
      refine congrArg (fun z => k (nI z) (nI (t + 1))) (nb_cong (fun p hp => ?_))
      apply Bool.eq_iff_iff.mpr
      simp only [Bool.and_eq_true, decide_eq_true_eq, usd_iff]
      constructor
      · rintro ⟨h1, s, h2, h3⟩; exact ⟨h1, s, by omega, h3⟩
      · rintro ⟨h1, s, h2, h3⟩
        by_cases e : s = t
        · subst e; omega
        · exact ⟨h1, s, by omega, h3⟩
/-- the next paint that a stone takes -/
theorem isNext_ok {g : JP} (hg : GOK g) {stones : Int32} {told touches has old beside s0 : Nat → Int32} (hM : MR g stones told touches has old beside) {c : Nat → Nat} (hc : COK c) {s F : Nat} (hs : s < pn g) (hF : 10 ≤ F) : ∀ m p, p + m = 3 →
    (∃ q, p < q ∧ q ≤ 3 ∧ (∀ i, p < i → i < q → ok1 g allP c s i = false) ∧ ok1 g allP c s q = true ∧ fX10_isNext F stones told touches beside (WS s0 (upc c s p)) (nI s) = some (1, WS s0 (upc c s q))) ∨
    ((∀ i, p < i → i ≤ 3 → ok1 g allP c s i = false) ∧ fX10_isNext F stones told touches beside (WS s0 (upc c s p)) (nI s) = some (0, WS s0 (upc c s p))) := by
  intro m p hp
  have hn := hg.2.2.1
  have hP := hg.2.2.2.2.1
  have hcp := hc.pc (s := s) (p := p) (by omega)
  have ha : (220 : Int32) + nI s = nI (220 + s) := nI_add 220 s
  have a1 : ¬ (nI (220 + s) < 0 ∨ 240 ≤ 220 + s) := by
    rintro (q | q)
    · exact nI_pos (by omega) q
    · omega
  have hup : upc c s p s = p := by unfold upc; rw [if_pos rfl]
  have hv : nI p + (1 : Int32) = nI (p + 1) := nI_add p 1
  have loop : ∀ k a, a + k = 4 → p < a → (∀ i, p < i → i < a → ok1 g allP c s i = false) →
      (∃ q, p < q ∧ q ≤ 3 ∧ (∀ i, p < i → i < q → ok1 g allP c s i = false) ∧ ok1 g allP c s q = true ∧ ∀ f, k < f → jl_loop2 (bX10_isNext_13 F stones told touches beside (nI s)) f (nI a) (WS s0 (upc c s p)) = some (1, WS s0 (upc c s q))) ∨
      ((∀ i, p < i → i ≤ 3 → ok1 g allP c s i = false) ∧ ∀ f, k < f → jl_loop2 (bX10_isNext_13 F stones told touches beside (nI s)) f (nI a) (WS s0 (upc c s p)) = some (0, WS s0 (upc c s p))) := by
    intro k
    induction k with
    | zero =>
      intro a ha4 hpa hno
      right
      refine ⟨fun i h1 h2 => hno i h1 (by omega), fun f hf => ?_⟩
      obtain ⟨f', rfl⟩ : ∃ f', f = f' + 1 := ⟨f - 1, by omega⟩
      rw [jl_loop2_s]; unfold bX10_isNext_13
      rw [c2, hM.2.1.2.2, if_pos (by rw [nI_ltI (by omega) (by omega)]; omega)]
    | succ k ih =>
      intro a ha4 hpa hno
      have hone : nI a + Int32.ofInt 1 = nI (a + 1) := nI_add a 1
      by_cases hPa : pP g < a
      · right
        refine ⟨fun i h1 h2 => ?_, fun f hf => ?_⟩
        · by_cases h3 : i < a
          · exact hno i h1 h3
          · have : ¬ i ≤ pP g := by omega
            unfold ok1; simp [this]
        · obtain ⟨f', rfl⟩ : ∃ f', f = f' + 1 := ⟨f - 1, by omega⟩
          rw [jl_loop2_s]; unfold bX10_isNext_13
          rw [c2, hM.2.1.2.2, if_pos (by rw [nI_ltI (by omega) (by omega)]; omega)]
      · have hw := isWell_ok hg hM hcp (k := 11) (by omega) (WS_SC s0 (upc c s p)) hs (p := a) (by omega) (by omega) hF
        rw [well_self] at hw
        have hok : ok1 g allP c s a = wellA g c s a := by
          unfold ok1 allP
          have : a ≤ pP g := by omega
          simp [this]
        cases hwa : wellA g c s a with
        | true =>
          left
          refine ⟨a, hpa, by omega, hno, by rw [hok]; exact hwa, fun f hf => ?_⟩
          obtain ⟨f', rfl⟩ : ∃ f', f = f' + 1 := ⟨f - 1, by omega⟩
          rw [jl_loop2_s]; unfold bX10_isNext_13
          rw [c2, hM.2.1.2.2, if_neg (by rw [nI_ltI (by omega) (by omega)]; omega), show (11 : Int32) = nI 11 from rfl, hw, hwa, Option.bind_some, if_t, ha, nI_clamp (by omega), if_neg a1, jl_let_eq, WS_upd (by omega), upc_upc]
        | false =>
          have hnx : ok1 g allP c s a = false := by rw [hok]; exact hwa
          have hstep : ∀ f, jl_loop2 (bX10_isNext_13 F stones told touches beside (nI s)) (f + 1) (nI a) (WS s0 (upc c s p)) = jl_loop2 (bX10_isNext_13 F stones told touches beside (nI s)) f (nI (a + 1)) (WS s0 (upc c s p)) := by
            intro f
            rw [jl_loop2_s]
            generalize jl_loop2 (bX10_isNext_13 F stones told touches beside (nI s)) f = K
            unfold bX10_isNext_13
            rw [c2, hM.2.1.2.2, if_neg (by rw [nI_ltI (by omega) (by omega)]; omega), show (11 : Int32) = nI 11 from rfl, hw, hwa, Option.bind_some, if_f, jl_let_eq, hone]
          rcases ih (a + 1) (by omega) (by omega) (fun i h1 h2 => by
            by_cases e : i = a
            · rw [e]; exact hnx
            · exact hno i h1 (by omega)) with ⟨q, h1, h2, h3, h4, h5⟩ | ⟨h1, h2⟩
          · left
            refine ⟨q, h1, h2, h3, h4, fun f hf => ?_⟩
            obtain ⟨f', rfl⟩ : ∃ f', f = f' + 1 := ⟨f - 1, by omega⟩
            rw [hstep]; exact h5 f' (by omega)
          · right
            refine ⟨h1, fun f hf => ?_⟩
            obtain ⟨f', rfl⟩ : ∃ f', f = f' + 1 := ⟨f - 1, by omega⟩
            rw [hstep]; exact h2 f' (by omega)
  have hun : fX10_isNext F stones told touches beside (WS s0 (upc c s p)) (nI s) = jl_loop2 (bX10_isNext_13 F stones told touches beside (nI s)) F (nI (p + 1)) (WS s0 (upc c s p)) := by
    unfold fX10_isNext lX10_isNext_13
    rw [ha, nI_clamp (by omega), if_neg a1, WS_in (by omega), hup, jl_let_eq, hv]
  rw [hun]
  rcases loop m (p + 1) (by omega) (by omega) (fun i h1 h2 => by omega) with ⟨q, h1, h2, h3, h4, h5⟩ | ⟨h1, h2⟩
  · exact Or.inl ⟨q, h1, h2, h3, h4, h5 F (by omega)⟩
  · exact Or.inr ⟨h1, h2 F (by omega)⟩
/-- how many rounds the search takes at most -/
def cst : Nat → Nat
  | 0 => 1
  | n + 1 => 1 + 3 * cst n
theorem cst_le : ∀ n, n < 10 → cst n ≤ 29524 := by decide
def stp (g : JP) (fw : Int32) (c : Nat → Nat) : Int32 := if fw < 0 then nI (unl g c) else if fw ≤ nI (unl g c) then fw else nI (unl g c)
theorem fils_skip {g : JP} {Q : Nat → Bool} {l : List Nat} {c : Nat → Nat} {s : Nat} : ∀ k p m, (∀ i, p ≤ i → i < p + k → ok1 g Q c s i = false) → fils g Q l c s p (k + m) = fils g Q l c s (p + k) m := by
  intro k
  induction k with
  | zero => intro p m _; rw [Nat.zero_add, Nat.add_zero]
  | succ k ih =>
    intro p m h
    rw [show k + 1 + m = (k + m) + 1 by omega, fils_succ, h p (Nat.le_refl _) (by omega), if_neg (by decide), List.nil_append, ih (p + 1) m (fun i h1 h2 => h i (by omega) (by omega))]
    congr 1; omega
theorem ways_search {g : JP} (hg : GOK g) {stones : Int32} {told touches has old beside s0 : Nat → Int32} (hM : MR g stones told touches has old beside) {F : Nat} (hF : 12 ≤ F) {fl : List Nat} (hfl : fl.length ≤ 9) (hmem : ∀ s ∈ fl, s < pn g) (hnd : fl.Nodup) {free : Nat → Int32} (hfree : ∀ i, i < fl.length → free i = nI (fl.getD i 0)) {R : Option (Int32 × Int32 × Int32 × (Nat → Int32) × (Nat → Int32))} :
    ∀ (l : List Nat) (k n a : Nat) (c : Nat → Nat) (fw : Int32), fl.drop k = l → k + l.length = fl.length → COK c → (∀ s ∈ l, c s = 0) →
      (∀ N M, a ≤ N → k < M → jl_loop6 (bX10_waysOf_69 F stones told touches beside (jl_loop7 (bX10_waysOf_16 F stones told touches beside) N)) M (nI (n + (fil g allP l c).length)) (nI k + Int32.ofInt (-1)) (nI fl.length) ((fil g allP l c).foldl (stp g) fw) (WS s0 c) free = R) →
      ∀ N, a + cst l.length ≤ N → jl_loop7 (bX10_waysOf_16 F stones told touches beside) N (nI n) (nI k) 1 (nI fl.length) fw (WS s0 c) free = R := by
  have hn := hg.2.2.1
  intro l
  induction l with
  | nil =>
    intro k n a c fw hd hk hc hz hR N hN
    have hN : a + 1 ≤ N := hN
    obtain ⟨N', rfl⟩ : ∃ N', N = N' + 1 := ⟨N - 1, by omega⟩
    have hkl : k = fl.length := by rw [List.length_nil] at hk; omega
    have h1 : jl_loop6 (bX10_waysOf_69 F stones told touches beside (jl_loop7 (bX10_waysOf_16 F stones told touches beside) N')) F (nI (n + 1)) (nI k + Int32.ofInt (-1)) (nI fl.length) (stp g fw c) (WS s0 c) free = R := hR N' F (by omega) (by omega)
    have hone : nI n + Int32.ofInt 1 = nI (n + 1) := nI_add n 1
    rw [jl_loop7_s]
    generalize jl_loop7 (bX10_waysOf_16 F stones told touches beside) N' = K at h1 ⊢
    unfold bX10_waysOf_16 fX10_waysOf_54 fX10_waysOf_63 lX10_waysOf_69
    rw [if_neg (by decide), if_pos (by rw [hkl]), jl_let_eq, hM.1, unlikes_ok hg (WS_SC s0 c) hc (by omega), Option.bind_some, ← hM.1]
    simp only [jl_let_eq, hone]
    unfold stp at h1
    by_cases e1 : fw < 0
    · rw [if_pos e1] at h1 ⊢; exact h1
    · rw [if_neg e1] at h1 ⊢
      by_cases e2 : fw ≤ nI (unl g c)
      · rw [if_pos e2] at h1 ⊢; exact h1
      · rw [if_neg e2] at h1 ⊢; exact h1
  | cons s l ih =>
    intro k n a c fw hd hk hc hz hR N hN
    have hN : a + (1 + 3 * cst l.length) ≤ N := hN
    obtain ⟨N', rfl⟩ : ∃ N', N = N' + 1 := ⟨N - 1, by omega⟩
    rw [List.length_cons] at hk
    have hkl : k < fl.length := by omega
    have hd2 := List.drop_eq_getElem_cons hkl
    rw [hd] at hd2
    injection hd2 with hd3 hd4
    have hsk : free k = nI s := by
      rw [hfree k hkl, hd3, List.getD_eq_getElem?_getD, List.getElem?_eq_getElem hkl]; rfl
    have hsf : s ∈ fl := by rw [hd3]; exact List.getElem_mem hkl
    have hs := hmem s hsf
    have hz0 : c s = 0 := hz s List.mem_cons_self
    have hsl : s ∉ l := by
      have h := List.Sublist.nodup (List.drop_sublist k fl) hnd
      rw [hd, List.nodup_cons] at h
      exact h.1
    have hkk : k < 2 ^ 31 := by omega
    have inner : ∀ m p n' fw', p + m = 3 → (∀ N M, a ≤ N → k < M → jl_loop6 (bX10_waysOf_69 F stones told touches beside (jl_loop7 (bX10_waysOf_16 F stones told touches beside) N)) M (nI (n' + (fils g allP l c s (p + 1) m).length)) (nI k + Int32.ofInt (-1)) (nI fl.length) ((fils g allP l c s (p + 1) m).foldl (stp g) fw') (WS s0 c) free = R) →
        ∀ N M, a + m * cst l.length ≤ N → k + 1 < M → jl_loop6 (bX10_waysOf_69 F stones told touches beside (jl_loop7 (bX10_waysOf_16 F stones told touches beside) N)) M (nI n') (nI k) (nI fl.length) fw' (WS s0 (upc c s p)) free = R := by
      intro m
      induction m using Nat.strongRecOn with
      | ind m ihm =>
        intro p n' fw' hp hR' N M hN hM'
        obtain ⟨M', rfl⟩ : ∃ M', M = M' + 1 := ⟨M - 1, by omega⟩
        have a9 : ¬ (nI k < 0 ∨ 9 ≤ k) := by
          rintro (q | q)
          · exact nI_pos (by omega) q
          · omega
        have ak : ¬ nI k < 0 := nI_pos (by omega)
        rcases isNext_ok hg hM hc (s0 := s0) hs (F := F) (by omega) m p hp with ⟨q, h1, h2, h3, h4, h5⟩ | ⟨h1, h2⟩
        · have hsplit : fils g allP l c s (p + 1) m = fil g allP l (upc c s q) ++ fils g allP l c s (q + 1) (3 - q) := by
            have e : m = (q - (p + 1)) + ((3 - q) + 1) := by omega
            have e2 : fils g allP l c s (p + 1) m = fils g allP l c s (p + 1) ((q - (p + 1)) + ((3 - q) + 1)) := by rw [← e]
            rw [e2, fils_skip _ _ _ (fun i i1 i2 => h3 i (by omega) (by omega)), show p + 1 + (q - (p + 1)) = q by omega, fils_succ, if_pos h4]
          have hq3 : (3 - q) * cst l.length + cst l.length ≤ m * cst l.length := by
            rw [← Nat.succ_mul]; exact Nat.mul_le_mul_right _ (by omega)
          have hgo := ih (k + 1) n' (a + (3 - q) * cst l.length) (upc c s q) fw' hd4.symm (by omega) (hc.pc h2) (fun t ht => by
              unfold upc; rw [if_neg (fun (e : t = s) => hsl (e ▸ ht))]; exact hz t (List.mem_cons_of_mem _ ht)) (fun N2 M2 hN2 hM2 => by
              have e1 : nI (k + 1) + Int32.ofInt (-1) = nI k := ni_addm1 k
              rw [e1]
              refine ihm (3 - q) (by omega) q (n' + (fil g allP l (upc c s q)).length) ((fil g allP l (upc c s q)).foldl (stp g) fw') (by omega) (fun N3 M3 hN3 hM3 => ?_) N2 M2 hN2 hM2
              have h := hR' N3 M3 hN3 hM3
              rw [hsplit, List.length_append, List.foldl_append, ← Nat.add_assoc] at h
              exact h) N (by omega)
          have hone : nI k + Int32.ofInt 1 = nI (k + 1) := nI_add k 1
          rw [jl_loop6_s]
          generalize jl_loop7 (bX10_waysOf_16 F stones told touches beside) N = K at hgo ⊢
          unfold bX10_waysOf_69 fX10_waysOf_108 fX10_waysOf_117
          rw [if_neg ak, nI_clamp (by omega), if_neg a9, hsk, h5, Option.bind_some]
          show (if (1 : Int32) = 0 then _ else _) = R
          rw [if_neg (by decide), if_neg ak, jl_let_eq, hone]
          exact hgo
        · have hnil : fils g allP l c s (p + 1) m = [] := by
            exact fils_skip (g := g) (Q := allP) (l := l) (c := c) (s := s) m (p + 1) 0 (fun i i1 i2 => h1 i (by omega) (by omega))
          have h := hR' N M' (by have : 0 ≤ m * cst l.length := Nat.zero_le _; omega) (by omega)
          rw [hnil] at h
          rw [jl_loop6_s]
          generalize hK : jl_loop6 (bX10_waysOf_69 F stones told touches beside (jl_loop7 (bX10_waysOf_16 F stones told touches beside) N)) M' = K at h ⊢
          unfold bX10_waysOf_69
          have ha : (220 : Int32) + nI s = nI (220 + s) := nI_add 220 s
          have a1 : ¬ (nI (220 + s) < 0 ∨ 240 ≤ 220 + s) := by
            rintro (q | q)
            · exact nI_pos (by omega) q
            · omega
          rw [if_neg ak, nI_clamp (by omega), if_neg a9, hsk, h2, Option.bind_some]
          show (if (0 : Int32) = 0 then _ else _) = R
          rw [if_pos rfl, if_neg a9, ha, nI_clamp (by omega), if_neg a1]
          simp only [jl_let_eq]
          rw [show (0 : Int32) = nI 0 from rfl, WS_upd (by omega), upc_upc, upc_self hz0]
          exact h
    rw [jl_loop7_s]
    have hin := inner 3 0 n fw (by omega) (fun N2 M2 h1 h2 => hR N2 M2 h1 h2) N' F (by omega) (by omega)
    rw [upc_self hz0] at hin
    unfold bX10_waysOf_16 lX10_waysOf_69
    rw [if_neg (by decide), if_neg (by rw [nI_eq (by omega) (by omega)]; omega)]
    exact hin
/-- all ways, and the fewest unlike paints of one -/
def fewI (g : JP) (c : Nat → Nat) : Int32 := (fil g allP (zl c (pn g) 0) c).foldl (stp g) (-4)
theorem waysOf_ok {g : JP} (hg : GOK g) {stones : Int32} {told touches has old beside slot : Nat → Int32} (hM : MR g stones told touches has old beside) {c : Nat → Nat} (hc : COK c) (hS : SC slot 11 c) (fr fw : Int32) (free : Nat → Int32) : ∃ free', fX10_waysOf FU stones fr fw told touches beside slot free = some (nI (waysN g c), nI (zl c (pn g) 0).length, fewI g c, slot, free') := by
  have hn := hg.2.2.1
  obtain ⟨free', f1, f2⟩ := freed_ok hn hS hc (fr0 := fr) (free0 := free) (FU_ge (n := 10) (by omega))
  refine ⟨free', ?_⟩
  have hl := zl_len (c := c) (pn g) 0
  unfold fX10_waysOf lX10_waysOf_16
  rw [hM.1, f1, Option.bind_some, ← hM.1]
  have hcst := cst_le (zl c (pn g) 0).length (by omega)
  have h := ways_search hg hM (s0 := slot) (FU_ge (n := 12) (by omega)) (fl := zl c (pn g) 0) (by omega) (fun s hs => by have := (zl_mem (pn g) 0).mp hs; omega) (zl_nodup _ _) f2 (R := some (nI (waysN g c), nI (zl c (pn g) 0).length, fewI g c, slot, free')) (zl c (pn g) 0) 0 0 1 c (-4) rfl (by omega) hc (fun s hs => ((zl_mem (pn g) 0).mp hs).2.2) (fun N M hN hMM => by
      obtain ⟨N', rfl⟩ : ∃ N', N = N' + 1 := ⟨N - 1, by omega⟩
      obtain ⟨M', rfl⟩ : ∃ M', M = M' + 1 := ⟨M - 1, by omega⟩
      rw [jl_loop6_s]
      unfold bX10_waysOf_69 fX10_waysOf_108 fX10_waysOf_117
      rw [if_pos (by decide), if_pos (by decide), jl_let_eq, jl_loop7_s]
      unfold bX10_waysOf_16
      rw [if_pos rfl, WS_self hS, Nat.zero_add]
      rfl) FU (FU_ge (n := 1 + cst (zl c (pn g) 0).length) (by omega))
  rw [WS_self hS] at h
  exact h
