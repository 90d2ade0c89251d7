/-! an evening by draws -/
/-- the paintings by stone, then paint -/
def mayI (g : JP) (c : Nat → Nat) (t i : Nat) : Bool := mayG g c t (i / 3) (i % 3 + 1)
theorem mayI_ct {g : JP} {c : Nat → Nat} {t : Nat} : ∀ n, fb_ct (mayI g c t) (3 * n) = fb_sm (fun s => fb_ct (fun j => mayG g c t s (j + 1)) 3) n := by
  intro n
  induction n with
  | zero => rfl
  | succ n ih =>
    rw [fb_sm_succ, ← ih, show 3 * (n + 1) = 3 * n + 3 by omega, fb_ct_split]
    congr 1
    refine fb_ct_cong (fun j hj => ?_)
    unfold mayI
    rw [show (3 * n + j) / 3 = n by omega, show (3 * n + j) % 3 = j by omega]
theorem mayI_all {g : JP} {c : Nat → Nat} {t : Nat} : fb_ct (mayI g c t) 27 = chC g c t := mayI_ct 9
theorem mayI_at {g : JP} {c : Nat → Nat} {t s p : Nat} (h1 : 1 ≤ p) (h3 : p ≤ 3) : mayI g c t (3 * s + (p - 1)) = mayG g c t s p := by
  unfold mayI
  rw [show (3 * s + (p - 1)) / 3 = s by omega, show (3 * s + (p - 1)) % 3 + 1 = p by omega]
theorem x_picked {g : JP} {c : Nat → Nat} {t F : Nat} (hF : 10 ≤ F) {i : Nat} (hi : i < 27) (hm : mayI g c t i = true) : fX1_picked F (nI (chS g c t)) (nI (fb_ct (mayI g c t) i)) = some (nI (2 ^ (9 * (i % 3) + i / 3))) := by
  have hcl := fb_ct_le (mayI g c t) i
  have inner : ∀ (p1 : Int32) (K : Int32 → Int32 → Option Int32) (s : Nat), s < 9 → ∀ m p, p + m = 4 → 1 ≤ p → 3 * s + (p - 1) ≤ i → ∀ f, m < f → jl_loop3 (bX1_picked_13 F (nI (chS g c t)) p1 K) f (nI (fb_ct (mayI g c t) i - fb_ct (mayI g c t) (3 * s + (p - 1)))) (nI s) (nI p) = if i < 3 * s + 3 then some (nI (2 ^ (9 * (i % 3) + i / 3))) else K (nI (fb_ct (mayI g c t) i - fb_ct (mayI g c t) (3 * (s + 1)))) (nI (s + 1)) := by
    intro p1 K s hs m
    induction m with
    | zero =>
      intro p hp h1 h2 f hf
      obtain ⟨f', rfl⟩ : ∃ f', f = f' + 1 := ⟨f - 1, by omega⟩
      have : p = 4 := by omega
      subst this
      have hone : nI s + Int32.ofInt 1 = nI (s + 1) := nI_add s 1
      rw [jl_loop3_s]; unfold bX1_picked_13
      rw [if_pos (by decide), jl_let_eq, hone, if_neg (by omega), show 3 * s + (4 - 1) = 3 * (s + 1) by omega]
    | succ m ih =>
      intro p hp h1 h2 f hf
      obtain ⟨f', rfl⟩ : ∃ f', f = f' + 1 := ⟨f - 1, by omega⟩
      have hone : nI p + Int32.ofInt 1 = nI (p + 1) := nI_add p 1
      have hbit := ch_bit (g := g) (c := c) (t := t) (s := s) (p := p) hs h1 (by omega)
      have hat := mayI_at (g := g) (c := c) (t := t) (s := s) (p := p) h1 (by omega)
      have hsucc := fb_ct_succ (mayI g c t) (3 * s + (p - 1))
      rw [show 3 * s + (p - 1) + 1 = 3 * s + (p + 1 - 1) by omega, hat] at hsucc
      rw [jl_loop3_s]
      have hrec := fun h => ih (p + 1) (by omega) (by omega) h f' (by omega)
      generalize jl_loop3 (bX1_picked_13 F (nI (chS g c t)) p1 K) f' = L at hrec ⊢
      unfold bX1_picked_13
      rw [if_neg (by rw [show (3 : Int32) = nI 3 from rfl, nI_ltI (by omega) (by omega)]; omega), x_painting hs h1 (by omega), Option.bind_some]
      cases hg1 : mayG g c t s p with
      | false =>
        have hne : 3 * s + (p - 1) ≠ i := fun e => by rw [e, hm, hg1] at hat; cases hat
        have hs0 : fb_ct (mayI g c t) (3 * s + (p + 1 - 1)) = fb_ct (mayI g c t) (3 * s + (p - 1)) := by rw [hsucc, hg1]; rfl
        rw [if_pos (hbit.mpr hg1), jl_let_eq, hone, ← hs0]
        exact hrec (by omega)
      | true =>
        rw [hg1, if_pos rfl] at hsucc
        rw [if_neg (fun e => by rw [hbit.mp e] at hg1; cases hg1), jl_let_eq]
        by_cases e : 3 * s + (p - 1) = i
        · rw [e, Nat.sub_self, if_00, if_pos (by omega), show i % 3 = p - 1 by omega, show i / 3 = s by omega]
        · have hmono := fb_ct_mono (mayI g c t) (show 3 * s + (p + 1 - 1) ≤ i by omega)
          obtain ⟨q, hq⟩ : ∃ q, fb_ct (mayI g c t) i - fb_ct (mayI g c t) (3 * s + (p - 1)) = q + 1 := ⟨fb_ct (mayI g c t) i - fb_ct (mayI g c t) (3 * s + (p - 1)) - 1, by omega⟩
          have hq2 : fb_ct (mayI g c t) i - fb_ct (mayI g c t) (3 * s + (p + 1 - 1)) = q := by omega
          have hm1 : nI (q + 1) + Int32.ofInt (-1) = nI q := ni_addm1 q
          rw [hq, if_neg (by rw [show (0 : Int32) = nI 0 from rfl, nI_eq (by omega) (by omega)]; omega), jl_let_eq, hone, hm1, ← hq2]
          exact hrec (by omega)
  have outer : ∀ m s, s + m = 9 → 3 * s ≤ i → ∀ f, m < f → jl_loop2 (bX1_picked_4 F (nI (chS g c t)) (nI (fb_ct (mayI g c t) i))) f (nI (fb_ct (mayI g c t) i - fb_ct (mayI g c t) (3 * s))) (nI s) = some (nI (2 ^ (9 * (i % 3) + i / 3))) := by
    intro m
    induction m with
    | zero => intro s hs h; omega
    | succ m ih =>
      intro s hs h f hf
      obtain ⟨f', rfl⟩ : ∃ f', f = f' + 1 := ⟨f - 1, by omega⟩
      rw [jl_loop2_s]
      have hrec := fun h => ih (s + 1) (by omega) h f' (by omega)
      generalize jl_loop2 (bX1_picked_4 F (nI (chS g c t)) (nI (fb_ct (mayI g c t) i))) f' = L at hrec ⊢
      have hin := inner (nI (fb_ct (mayI g c t) i)) L s (by omega) 3 1 rfl (Nat.le_refl 1) h F (by omega)
      rw [show 3 * s + (1 - 1) = 3 * s by omega] at hin
      unfold bX1_picked_4 lX1_picked_13
      rw [if_neg (by rw [show (9 : Int32) = nI 9 from rfl, nI_leI (by omega) (by omega)]; omega), show (1 : Int32) = nI 1 from rfl, hin]
      split
      · rfl
      · next e => exact hrec (by omega)
  have := outer 9 0 rfl (by omega) F (by omega)
  exact this
theorem ix_step {P k : Nat} (hP : P = 1 ∨ P = 2 ∨ P = 3) : (k % P + 1 < P → (k + 1) / P = k / P ∧ (k + 1) % P = k % P + 1) ∧ (k % P + 1 = P → (k + 1) / P = k / P + 1 ∧ (k + 1) % P = 0) ∧ k % P < P ∧ k = P * (k / P) + k % P := by
  rcases hP with rfl | rfl | rfl <;> omega
/-- what is counted before the next one -/
theorem ix_ct {g : JP} (hg : GOK g) {c : Nat → Nat} {t k : Nat} : fb_ct (mayI g c t) (3 * ((k + 1) / pP g) + (k + 1) % pP g) = fb_ct (mayI g c t) (3 * (k / pP g) + k % pP g + 1) := by
  have h1 := hg.2.2.2.1
  have h3 := hg.2.2.2.2.1
  obtain ⟨i1, i2, i3, i4⟩ := ix_step (P := pP g) (k := k) (by omega)
  rcases Nat.lt_or_ge (k % pP g + 1) (pP g) with q | q
  · obtain ⟨a, b⟩ := i1 q
    rw [a, b]; rfl
  · obtain ⟨a, b⟩ := i2 (by omega)
    rw [a, b]
    obtain ⟨u, hu⟩ : ∃ u, 3 * (k / pP g + 1) + 0 = (3 * (k / pP g) + k % pP g + 1) + u := ⟨3 - (k % pP g + 1), by omega⟩
    rw [hu, fb_ct_split]
    have : fb_ct (fun j => mayI g c t (3 * (k / pP g) + k % pP g + 1 + j)) u = 0 := fb_ct_zero.mpr (fun j hj => by
      have e := mayI_at (g := g) (c := c) (t := t) (s := k / pP g) (p := k % pP g + 1 + j + 1) (by omega) (by omega)
      rw [show 3 * (k / pP g) + (k % pP g + 1 + j + 1 - 1) = 3 * (k / pP g) + k % pP g + 1 + j by omega] at e
      rw [e]
      cases hg1 : mayG g c t (k / pP g) (k % pP g + 1 + j + 1) with
      | false => rfl
      | true =>
        unfold mayG at hg1
        rw [Bool.and_eq_true] at hg1
        have := (may_le hg hg1.2).2.1
        omega)
    rw [this, Nat.add_zero]
theorem may_at {g : JP} (hg : GOK g) {stones : Int32} {told touches has old beside slot : Nat → Int32} (hM : MR g stones told touches has old beside) {w : JW} (hW : WOK g w) (hS : SW slot 11 w) {k F : Nat} (hk : k < pn g * pP g) (hF : 10 ≤ F) : nI k / told (2 : Int32).toNatClampNeg = nI (k / pP g) ∧ nI k - nI k / told (2 : Int32).toNatClampNeg * told (2 : Int32).toNatClampNeg + 1 = nI (k % pP g + 1) ∧ ¬ told (2 : Int32).toNatClampNeg = 0 ∧ ¬ stones * told (2 : Int32).toNatClampNeg ≤ nI k ∧ k / pP g < pn g ∧ fX10_isMay F stones touches has beside slot 11 (nI (k / pP g)) (nI (k % pP g + 1)) = some (nI (mayI g w.1 w.2.2 (3 * (k / pP g) + k % pP g)).toNat) := by
  have h1 := hg.2.2.2.1
  have h3 := hg.2.2.2.2.1
  obtain ⟨hn1, hn9, -, -⟩ := gn hg
  have hlt : pn g * pP g ≤ 27 := Nat.mul_le_mul hn9 h3
  obtain ⟨-, -, i3, i4⟩ := ix_step (P := pP g) (k := k) (by omega)
  have hq : k / pP g < pn g := by
    rw [Nat.div_lt_iff_lt_mul (by omega)]; exact hk
  rw [c2, hM.2.1.2.2]
  have hmay := isMay_ok hg hM hW.1.1 (k := 11) (by omega) hS hq hW.2.1 (p := k % pP g + 1) (by omega) (by omega) hF
  have e := mayI_at (g := g) (c := w.1) (t := w.2.2) (s := k / pP g) (p := k % pP g + 1) (by omega) (by omega)
  rw [Nat.add_sub_cancel] at e
  refine ⟨pk_div (by omega) (by omega) (by omega), ?_, ?_, ?_, hq, ?_⟩
  · rw [pk_rem (by omega) (by omega) (by omega)]; exact nI_add _ 1
  · rw [show (0 : Int32) = nI 0 from rfl, nI_eq (by omega) (by omega)]; omega
  · rw [hM.1, pk_mul, nI_leI (by omega) (by omega)]; omega
  · rw [e, show (11 : Int32) = nI 11 from rfl, hmay]
    unfold mayG
    rw [decide_eq_true hq, Bool.true_and]
theorem draws_ok {g : JP} (hg : GOK g) {stones : Int32} {told touches has old beside slot : Nat → Int32} (hM : MR g stones told touches has old beside) {w : JW} (hW : WOK g w) (hS : SW slot 11 w) {F : Nat} (hF : 29 ≤ F) {i : Nat} (hi : i < 27) (hm : mayI g w.1 w.2.2 i = true) : fX10_draws F stones told touches has beside slot (nI (fb_ct (mayI g w.1 w.2.2) i)) = (fX10_paints slot 11 (nI (i / 3)) (nI (i % 3 + 1))).bind fun r => some r := by
  have h1 := hg.2.2.2.1
  have h3 := hg.2.2.2.2.1
  obtain ⟨hn1, hn9, -, -⟩ := gn hg
  have hcl := fb_ct_le (mayI g w.1 w.2.2) i
  have him : i / 3 < pn g ∧ i % 3 + 1 ≤ pP g := by
    unfold mayI mayG at hm
    rw [Bool.and_eq_true, decide_eq_true_eq] at hm
    exact ⟨hm.1, (may_le hg hm.2).2.1⟩
  have hlt : pn g * pP g ≤ 27 := Nat.mul_le_mul hn9 h3
  have key : ∀ m k, k + m = pn g * pP g → 3 * (k / pP g) + k % pP g ≤ i → ∀ f, m < f → jl_loop3 (bX10_draws_4 F stones told touches has beside (nI (fb_ct (mayI g w.1 w.2.2) i))) f (nI (fb_ct (mayI g w.1 w.2.2) i - fb_ct (mayI g w.1 w.2.2) (3 * (k / pP g) + k % pP g))) (nI k) slot = (fX10_paints slot 11 (nI (i / 3)) (nI (i % 3 + 1))).bind fun r => some r := by
    intro m
    induction m with
    | zero =>
      intro k hk hle
      exfalso
      have : k / pP g = pn g := by
        rw [show k = pn g * pP g by omega]; exact Nat.mul_div_cancel _ (by omega)
      omega
    | succ m ih =>
      intro k hk hle f hf
      obtain ⟨f', rfl⟩ : ∃ f', f = f' + 1 := ⟨f - 1, by omega⟩
      obtain ⟨a1, a2, a3, a4, a5, a6⟩ := may_at hg hM hW hS (k := k) (F := F) (by omega) (by omega)
      have hone : nI k + Int32.ofInt 1 = nI (k + 1) := nI_add k 1
      obtain ⟨-, -, i3, i4⟩ := ix_step (P := pP g) (k := k) (by omega)
      have hct := ix_ct hg (c := w.1) (t := w.2.2) (k := k)
      have hsucc := fb_ct_succ (mayI g w.1 w.2.2) (3 * (k / pP g) + k % pP g)
      have hnext : 3 * (k / pP g) + k % pP g ≠ i → 3 * ((k + 1) / pP g) + (k + 1) % pP g ≤ i := by
        intro hne
        obtain ⟨j1, j2, -, -⟩ := ix_step (P := pP g) (k := k) (by omega)
        rcases Nat.lt_or_ge (k % pP g + 1) (pP g) with q | q
        · obtain ⟨x, y⟩ := j1 q
          rw [x, y]; omega
        · obtain ⟨x, y⟩ := j2 (by omega)
          rw [x, y]; omega
      rw [jl_loop3_s]
      have hrec := fun h => ih (k + 1) (by omega) (hnext h) f' (by omega)
      generalize jl_loop3 (bX10_draws_4 F stones told touches has beside (nI (fb_ct (mayI g w.1 w.2.2) i))) f' = L at hrec ⊢
      unfold bX10_draws_4
      rw [if_neg a4, if_neg a3, jl_let_eq, if_neg a3]
      simp only [jl_let_eq]
      rw [a2, a1, a6, Option.bind_some, hone]
      cases hg1 : mayI g w.1 w.2.2 (3 * (k / pP g) + k % pP g) with
      | false =>
        have hne : 3 * (k / pP g) + k % pP g ≠ i := fun e => by rw [e, hm] at hg1; cases hg1
        have hs0 : fb_ct (mayI g w.1 w.2.2) (3 * (k / pP g) + k % pP g + 1) = fb_ct (mayI g w.1 w.2.2) (3 * (k / pP g) + k % pP g) := by rw [hsucc, hg1]; rfl
        have := hrec hne
        rw [hct, hs0] at this
        rw [if_f]; exact this
      | true =>
        rw [hg1, if_pos rfl] at hsucc
        rw [if_t]
        by_cases e : 3 * (k / pP g) + k % pP g = i
        · rw [e, Nat.sub_self, if_00, show k / pP g = i / 3 by omega, show k % pP g = i % 3 by omega]
        · have hmono := fb_ct_mono (mayI g w.1 w.2.2) (show 3 * (k / pP g) + k % pP g + 1 ≤ i by omega)
          obtain ⟨q, hq⟩ : ∃ q, fb_ct (mayI g w.1 w.2.2) i - fb_ct (mayI g w.1 w.2.2) (3 * (k / pP g) + k % pP g) = q + 1 := ⟨fb_ct (mayI g w.1 w.2.2) i - fb_ct (mayI g w.1 w.2.2) (3 * (k / pP g) + k % pP g) - 1, by omega⟩
          have hq2 : fb_ct (mayI g w.1 w.2.2) i - fb_ct (mayI g w.1 w.2.2) (3 * (k / pP g) + k % pP g + 1) = q := by omega
          have hm1 : nI (q + 1) + Int32.ofInt (-1) = nI q := ni_addm1 q
          have := hrec e
          rw [hct, hq2] at this
          rw [hq, if_neg (by rw [show (0 : Int32) = nI 0 from rfl, nI_eq (by omega) (by omega)]; omega), hm1]
          exact this
  have := key (pn g * pP g) 0 (by omega) (by rw [Nat.zero_div, Nat.zero_mod]; omega) F (by omega)
  rw [Nat.zero_div, Nat.zero_mod] at this
  exact this
theorem ptd_paint {c : Nat → Nat} {s p : Nat} (hs : s < 9) (hz : c s = 0) (h1 : 1 ≤ p) (h3 : p ≤ 3) : ptd (upc c s p) = ptd c + 1 := by
  unfold ptd
  have h := fb_ct_upd (fun s => decide (1 ≤ c s) && decide (c s ≤ 3)) true hs
  have e : fb_ct (fun k => if k = s then true else (decide (1 ≤ c k) && decide (c k ≤ 3))) 9 = fb_ct (fun k => decide (1 ≤ upc c s p k) && decide (upc c s p k ≤ 3)) 9 := fb_ct_cong (fun k _ => by
    unfold upc
    by_cases e : k = s
    · rw [if_pos e, if_pos e]; simp [h1, h3]
    · rw [if_neg e, if_neg e])
  rw [e] at h
  have z : (decide (1 ≤ c s) && decide (c s ≤ 3)) = false := by rw [hz]; rfl
  simp only [z, Bool.false_eq_true, if_false, if_true, Nat.add_zero] at h
  exact h
theorem lN_i' (n : Nat) : (lN n).toInt32 = nI n := lN_i n
def evV (z k : Nat) : Nat := 7919 * z + 6151 * k + 1
theorem ev_num {z k n : Nat} (hz : z ≤ 9999) (hk : k ≤ 9) (hn : 1 ≤ n) (hn2 : n ≤ 27) : (((((7919 : Int64) * (nI z).toInt64 + (6151 : Int64) * (nI k).toInt64 + (1 : Int64)) * ((7919 : Int64) * (nI z).toInt64 + (6151 : Int64) * (nI k).toInt64 + (1 : Int64)) - ((7919 : Int64) * (nI z).toInt64 + (6151 : Int64) * (nI k).toInt64 + (1 : Int64)) * ((7919 : Int64) * (nI z).toInt64 + (6151 : Int64) * (nI k).toInt64 + (1 : Int64)) / (65521 : Int64) * (65521 : Int64)) - (((7919 : Int64) * (nI z).toInt64 + (6151 : Int64) * (nI k).toInt64 + (1 : Int64)) * ((7919 : Int64) * (nI z).toInt64 + (6151 : Int64) * (nI k).toInt64 + (1 : Int64)) - ((7919 : Int64) * (nI z).toInt64 + (6151 : Int64) * (nI k).toInt64 + (1 : Int64)) * ((7919 : Int64) * (nI z).toInt64 + (6151 : Int64) * (nI k).toInt64 + (1 : Int64)) / (65521 : Int64) * (65521 : Int64)) / (nI n).toInt64 * (nI n).toInt64).toInt32) = nI (evV z k * evV z k % 65521 % n) := by
  have hV : (7919 : Int64) * (nI z).toInt64 + (6151 : Int64) * (nI k).toInt64 + (1 : Int64) = lN (evV z k) := by
    rw [nI_l (by omega), nI_l (by omega), show (7919 : Int64) = lN 7919 from rfl, show (6151 : Int64) = lN 6151 from rfl, show (1 : Int64) = lN 1 from rfl, lN_mul, lN_mul, lN_add, lN_add]; rfl
  have hb : evV z k ≤ 79240000 := by unfold evV; omega
  have hb2 : evV z k * evV z k ≤ 79240000 * 79240000 := Nat.mul_le_mul hb hb
  have hm : evV z k * evV z k % 65521 < 65521 := Nat.mod_lt _ (by omega)
  rw [hV, lN_mul, show (65521 : Int64) = lN 65521 from rfl, pk_lRem (by omega) (by omega) (by omega), nI_l (n := n) (by omega), pk_lRem (by omega) (by omega) (by omega), lN_i']
theorem evening_both {g : JP} (hg : GOK g) {all fc fit pg0 pg1 : Int32} {ro : Nat → Int32} (hX : XS g all fc fit pg0 pg1 ro) {stones : Int32} {told touches has old beside : Nat → Int32} (hM : MR g stones told touches has old beside) {z : Nat} (hz : z ≤ 9999) (p2 p3 what : Int32) {F : Nat} (hF : 29 ≤ F) :
    ∀ m k (w : JW) (slot : Nat → Int32), k + m = 9 → WOK g w → k ≤ w.2.1.length → SW slot 11 w → ∃ v slot', (∀ f, m < f → jl_loop4 (bX1_draw_19 F fit pg0 pg1 ro p2 p3 (nI z) what) f (nI (fitS g w.1)) (nI (ptd w.1)) (nI w.2.2) (nI k) = some v) ∧ (∀ f, m < f → jl_loop3 (bX10_evening_41 F stones told touches has beside (nI z) what) f (nI (chC g w.1 w.2.2)) (nI k) slot = some (v, slot')) ∧ ∀ j, j < 220 → slot' j = slot j := by
  obtain ⟨hn1, hn9, -, -⟩ := gn hg
  -- the end
  have fin : ∀ k (w : JW) (slot : Nat → Int32), WOK g w → SW slot 11 w → chC g w.1 w.2.2 = 0 → k ≤ 9 → ∃ v slot', (∀ f, 0 < f → jl_loop4 (bX1_draw_19 F fit pg0 pg1 ro p2 p3 (nI z) what) f (nI (fitS g w.1)) (nI (ptd w.1)) (nI w.2.2) (nI k) = some v) ∧ (∀ f, 0 < f → jl_loop3 (bX10_evening_41 F stones told touches has beside (nI z) what) f (nI (chC g w.1 w.2.2)) (nI k) slot = some (v, slot')) ∧ ∀ j, j < 220 → slot' j = slot j := by
    intro k w slot hW hS h0 hk
    have e19 := hS.2.2.2
    have hpt := painted_ok hg hM.1 (k := 11) (by omega) hS.1 hW.1 (F := F) (by omega)
    refine ⟨if what = 0 then nI w.2.2 else nI (ptd w.1), slot, fun f hf => ?_, fun f hf => ?_, fun _ _ => rfl⟩
    · obtain ⟨f', rfl⟩ : ∃ f', f = f' + 1 := ⟨f - 1, by omega⟩
      have hend : ∀ {A : Prop} [Decidable A] {B : Option Int32}, B = (if what = 0 then some (nI w.2.2) else some (nI (ptd w.1))) → B = some (if what = 0 then nI w.2.2 else nI (ptd w.1)) := by
        intro A _ B hB
        rw [hB]; split <;> rfl
      rw [jl_loop4_s]; unfold bX1_draw_19 fX1_draw_113
      refine hend (A := True) ?_
      by_cases h9 : k = 9
      · rw [if_pos (by rw [show (9 : Int32) = nI 9 from rfl, nI_leI (by omega) (by omega)]; omega)]
      · have hch : nI (fitS g w.1) &&& (if w.2.2 = 0 then pg0 else pg1) = nI (chS g w.1 w.2.2) := by
          have ht := hW.2.1
          rw [hX.2.2.2.1, hX.2.2.2.2.1]
          rcases (show w.2.2 = 0 ∨ w.2.2 = 1 by omega) with q | q
          · rw [if_pos q, ni_and, q, chS_eq hg hW.1]
          · rw [if_neg (by omega), ni_and, q, chS_eq hg hW.1]
        rw [if_neg (by rw [show (9 : Int32) = nI 9 from rfl, nI_leI (by omega) (by omega)]; omega), x_paintingsOf hW.2.1, Option.bind_some, jl_let_eq, hch, bitCount_ok (chS_lt31 _ _ _), Option.bind_some, x_chC, h0, if_00]
    · obtain ⟨f', rfl⟩ : ∃ f', f = f' + 1 := ⟨f - 1, by omega⟩
      rw [jl_loop3_s]; unfold bX10_evening_41
      rw [h0, if_pos (by decide), show ((239 : Int32)).toNatClampNeg = 20 * 11 + 19 by decide, e19, show (11 : Int32) = nI 11 from rfl, hpt, Option.bind_some]
      split <;> rfl
  intro m
  induction m with
  | zero =>
    intro k w slot hk hW hl hS
    have h0 : chC g w.1 w.2.2 = 0 := by
      apply Classical.byContradiction
      intro h
      have hpos : 0 < fb_ct (mayI g w.1 w.2.2) 27 := by rw [mayI_all]; omega
      obtain ⟨i, hi, hm⟩ := fb_ct_pos.mp hpos
      unfold mayI mayG at hm
      rw [Bool.and_eq_true, decide_eq_true_eq] at hm
      have := (hW.paint hg hm.1 hm.2).len9 hg
      have e : (paintW w (i / 3) (i % 3 + 1)).2.1.length = w.2.1.length + 1 := by simp [paintW]
      omega
    obtain ⟨v, s, f1, f2, f3⟩ := fin k w slot hW hS h0 (by omega)
    exact ⟨v, s, f1, f2, f3⟩
  | succ m ih =>
    intro k w slot hk hW hl hS
    by_cases h0 : chC g w.1 w.2.2 = 0
    · obtain ⟨v, s, f1, f2, f3⟩ := fin k w slot hW hS h0 (by omega)
      exact ⟨v, s, fun f hf => f1 f (by omega), fun f hf => f2 f (by omega), f3⟩
    · have hle := chC_le g w.1 w.2.2
      have hj : evV z k * evV z k % 65521 % chC g w.1 w.2.2 < fb_ct (mayI g w.1 w.2.2) 27 := by rw [mayI_all]; exact Nat.mod_lt _ (by omega)
      obtain ⟨i, hi, hm, hji⟩ := fb_ct_kth hj
      have hm2 := hm
      unfold mayI mayG at hm2
      rw [Bool.and_eq_true, decide_eq_true_eq] at hm2
      obtain ⟨p1, p2', p3'⟩ := may_le hg hm2.2
      have hP3 := hg.2.2.2.2.1
      have hW' := hW.paint hg hm2.1 hm2.2
      have e1 : (paintW w (i / 3) (i % 3 + 1)).2.1.length = w.2.1.length + 1 := by simp [paintW]
      have hl9 := hW'.len9 hg
      obtain ⟨s1, q1, q2, q3⟩ := paints_ok (k := 11) (p := i % 3 + 1) (by omega) hS (by omega) hW.2.1 (show i / 3 < 9 by omega)
      obtain ⟨v, s', r1, r2, r3⟩ := ih (k + 1) (paintW w (i / 3) (i % 3 + 1)) s1 (by omega) hW' (by omega) q2
      have hnum := ev_num (z := z) (k := k) (n := chC g w.1 w.2.2) hz (by omega) (by omega) hle
      have hone : nI k + Int32.ofInt 1 = nI (k + 1) := nI_add k 1
      have hn64 : ¬ (nI (chC g w.1 w.2.2)).toInt64 = 0 := by
        rw [nI_l (by omega), show (0 : Int64) = lN 0 from rfl, ln_eq (by omega) (by omega)]; exact h0
      refine ⟨v, s', fun f hf => ?_, fun f hf => ?_, fun j hj => by rw [r3 j hj, q3 j (by omega)]⟩
      · obtain ⟨f', rfl⟩ : ∃ f', f = f' + 1 := ⟨f - 1, by omega⟩
        have hr := r1 f' (by omega)
        rw [jl_loop4_s]
        generalize jl_loop4 (bX1_draw_19 F fit pg0 pg1 ro p2 p3 (nI z) what) f' = L at hr ⊢
        unfold bX1_draw_19
        have hch : nI (fitS g w.1) &&& (if w.2.2 = 0 then pg0 else pg1) = nI (chS g w.1 w.2.2) := by
          have ht := hW.2.1
          rw [hX.2.2.2.1, hX.2.2.2.2.1]
          rcases (show w.2.2 = 0 ∨ w.2.2 = 1 by omega) with q | q
          · rw [if_pos q, ni_and, q, chS_eq hg hW.1]
          · rw [if_neg (by omega), ni_and, q, chS_eq hg hW.1]
        have hpc := x_picked (g := g) (c := w.1) (t := w.2.2) (F := F) (by omega) hi hm
        rw [hji] at hpc
        have hfa := x_fitAfter hg hX hm2.1 p1 (by omega) p3'
        rw [Nat.add_sub_cancel] at hfa
        have hpt := ptd_paint (c := w.1) (show i / 3 < 9 by omega) p3' p1 (by omega)
        have h1m : (1 : Int32) - nI w.2.2 = nI (1 - w.2.2) := turn_1 hW.2.1
        have h1p : nI (ptd w.1) + Int32.ofInt 1 = nI (ptd (upc w.1 (i / 3) (i % 3 + 1))) := by rw [hpt]; exact nI_add _ 1
        rw [if_neg (by rw [show (9 : Int32) = nI 9 from rfl, nI_leI (by omega) (by omega)]; omega), x_paintingsOf hW.2.1, Option.bind_some, jl_let_eq, hch, bitCount_ok (chS_lt31 _ _ _), Option.bind_some, x_chC, if_neg (by rw [show (0 : Int32) = nI 0 from rfl, nI_eq (by omega) (by omega)]; exact h0), jl_let_eq, if_neg hn64, hnum, hpc, Option.bind_some, hfa, Option.bind_some]
        simp only [jl_let_eq]
        rw [h1p, h1m, hone]
        exact hr
      · obtain ⟨f', rfl⟩ : ∃ f', f = f' + 1 := ⟨f - 1, by omega⟩
        have hr := r2 f' (by omega)
        rw [jl_loop3_s]
        generalize jl_loop3 (bX10_evening_41 F stones told touches has beside (nI z) what) f' = L at hr ⊢
        unfold bX10_evening_41
        have hdr := draws_ok hg hM hW hS (F := F) hF hi hm
        rw [hji, show (11 : Int32) = nI 11 from rfl, q1, Option.bind_some] at hdr
        have hms := mays_ok hg hM hW'.1.1 (k := 11) (by omega) q2 hW'.2.1 (F := F) (by omega)
        rw [if_neg (by rw [show (0 : Int32) = nI 0 from rfl, nI_leI (by omega) (by omega)]; omega), jl_let_eq, if_neg hn64, hnum, hdr, Option.bind_some, jl_let_eq, show (11 : Int32) = nI 11 from rfl, hms, Option.bind_some, hone]
        exact hr
theorem in9999 (p : Int32) : fX10_in p.toInt64 0 9999 = some (nI (isN p 10000).toNat) := by
  rw [in_ok, i2l_toInt, show (0 : Int64).toInt = 0 from by decide, show (9999 : Int64).toInt = 9999 from by decide]
  unfold isN
  have : decide (p.toInt ≤ 9999) = decide (p.toInt < (10000 : Nat)) := by apply decide_eq_decide.mpr; omega
  rw [this]
theorem st_evening : St_evening Inv_ := by
  intro x_text_length x_text_bytes_ x_reader_at x_reader_first x_reader_second x_reader_stoneTold x_reader_paintTold x_wall_worn x_wall_turn x_wall_order x_wall_pastLength x_wall_heldLength x_wall_past_ x_wall_held_ x_row_length x_row_paintings_ x_game_known_ x_lot_above x_lot_below x_laid_rows x_laid_columns x_laid_paints x_laid_apart x_laid_paintsOf0 x_laid_paintsOf1 x_laid_old x_laid_shut x_laid_all x_laid_firstColumn x_laid_fitsAtFirst x_laid_paintingsOf0 x_laid_paintingsOf1 x_laid_ruledOut_ x_spare_rows x_spare_columns x_spare_paints x_spare_apart x_spare_paintsOf0 x_spare_paintsOf1 x_spare_old x_spare_shut x_spare_all x_spare_firstColumn x_spare_fitsAtFirst x_spare_paintingsOf0 x_spare_paintingsOf1 x_spare_ruledOut_ y_length y_at y_stones y_kept y_done y_rows y_frees y_fewest y_text_ y_told_ y_touches_ y_has_ y_old_ y_beside_ y_slot_ y_row_ y_free_ y_worth_ y_fore_ y_back_ y_got_
  intro p1 p2 hI
  have hI0 := hI
  replace hI : InvC x_text_length x_text_bytes_ x_reader_at x_reader_first x_reader_second x_reader_stoneTold x_reader_paintTold x_wall_worn x_wall_turn x_wall_order x_wall_pastLength x_wall_heldLength x_wall_past_ x_wall_held_ x_row_length x_row_paintings_ x_game_known_ x_lot_above x_lot_below x_laid_rows x_laid_columns x_laid_paints x_laid_apart x_laid_paintsOf0 x_laid_paintsOf1 x_laid_old x_laid_shut x_laid_all x_laid_firstColumn x_laid_fitsAtFirst x_laid_paintingsOf0 x_laid_paintingsOf1 x_laid_ruledOut_ x_spare_rows x_spare_columns x_spare_paints x_spare_apart x_spare_paintsOf0 x_spare_paintsOf1 x_spare_old x_spare_shut x_spare_all x_spare_firstColumn x_spare_fitsAtFirst x_spare_paintingsOf0 x_spare_paintingsOf1 x_spare_ruledOut_ y_length y_at y_stones y_kept y_done y_rows y_frees y_fewest y_text_ y_told_ y_touches_ y_has_ y_old_ y_beside_ y_slot_ y_row_ y_free_ y_worth_ y_fore_ y_back_ y_got_ := hI
  obtain ⟨g, w, d, ps, e, ks, r, rs, len, hg, hIT, hXU, hXS, hMR, hIW, hIP, hIH, hIR, hMem⟩ := hI
  obtain ⟨hW, rfl, rfl, rfl, hSW⟩ := hIW
  have hr := fb_rng p1
  have e0 : (p1 < 0) = (p1.toInt < 0) := by rw [fa_lt]; rfl
  have e1 : ((9999 : Int32) < p1) = (9999 < p1.toInt) := by rw [fa_lt]; rfl
  cases hz : isN p1 10000
  · refine ⟨-1, ((-1 : Int32), y_slot_), ?_, ?_, Eq.refl (-1 : Int32), hI0⟩
    · unfold fX9_evening
      unfold isN at hz
      simp only [Bool.and_eq_false_iff, decide_eq_false_iff_not] at hz
      by_cases h : p1.toInt < 0
      · rw [if_pos (by rw [e0]; exact h)]
      · rw [if_neg (by rw [e0]; exact h), if_pos (by rw [e1]; omega)]
    · unfold fX10_evening
      rw [in9999, hz]; rfl
  · obtain ⟨z, hz1, -, rfl⟩ := isN_iff.mp hz
    have n0 : ¬ nI z < 0 := nI_pos (by omega)
    have n1 : ¬ (9999 : Int32) < nI z := by rw [show (9999 : Int32) = nI 9999 from rfl, nI_ltI (by omega) (by omega)]; omega
    cases hp : isN p2 2
    · obtain ⟨q0, q1⟩ := no01 hp
      refine ⟨-1, ((-1 : Int32), y_slot_), ?_, ?_, Eq.refl (-1 : Int32), hI0⟩
      · unfold fX9_evening
        rw [if_neg n0, if_neg n1, if_neg q0, if_neg q1]
      · unfold fX10_evening
        rw [in9999, hz, Option.bind_some, if_t, in01, hp]; rfl
    · obtain ⟨s1, c1, cp⟩ := copies_ok (slot := y_slot_) (a := 0) (b := 11) (F := FU) (by omega) (by omega) (by omega) (FU_ge (by omega))
      have hS1 := hSW.cp (hW.len9 hg) cp
      obtain ⟨v, s2, a1, a2, a3⟩ := evening_both hg hXS hMR (z := z) (by omega) (nI (wornS w.1)) (nI w.2.2) p2 (FU_ge (n := 29) (by omega)) 9 0 w s1 rfl hW (Nat.zero_le _) hS1
      have hms := mays_ok hg hMR hW.1.1 (k := 11) (by omega) hS1 hW.2.1 (FU_ge (n := 12) (by omega))
      have hX : fX9_evening_22 FU (nI (wornS w.1)) (nI w.2.2) x_laid_fitsAtFirst x_laid_paintingsOf0 x_laid_paintingsOf1 x_laid_ruledOut_ (nI z) p2 = some v := by
        unfold fX9_evening_22 fX1_draw lX1_draw_19
        rw [x_fitting hg hXS hW.1 (FU_ge (by omega)), Option.bind_some, x_ptd, Option.bind_some, show (0 : Int32) = nI 0 from rfl, a1 FU (FU_ge (by omega)), Option.bind_some]
      refine ⟨v, (v, s2), ?_, ?_, Eq.refl v, ?_⟩
      · unfold fX9_evening
        rw [if_neg n0, if_neg n1]
        by_cases e : p2 = 0
        · rw [if_pos e]; exact hX
        · rw [if_neg e, if_pos ((is01 hp).resolve_left e)]; exact hX
      · unfold fX10_evening lX10_evening_41
        rw [in9999, hz, Option.bind_some, if_t, in01, hp, Option.bind_some, if_t, show (0 : Int32) = nI 0 from rfl, show (11 : Int32) = nI 11 from rfl, c1, Option.bind_some, hms, Option.bind_some]
        exact a2 FU (FU_ge (by omega))
      · obtain ⟨z1, z2, z3⟩ := slot_low (slot' := s2) hg hW hSW hIP hIH (fun j hj => by rw [a3 j hj]; exact cp.2 j (by omega))
        exact ⟨g, w, d, ps, e, ks, r, rs, len, hg, hIT, hXU, hXS, hMR, ⟨hW, rfl, rfl, rfl, z1⟩, z2, z3, hIR, hMem⟩
