/-! orders: numbers, and the class's formula -/
def fct : Nat → Nat
  | 0 => 1
  | n + 1 => (n + 1) * fct n
def chs : Nat → Nat → Nat
  | _, 0 => 1
  | 0, _ + 1 => 0
  | n + 1, k + 1 => chs n k + chs n (k + 1)
/-- orders of x0 stones of painter 0 alone, f of either, z of neither, the rest of painter 1 alone; a places of 0, b of 1 -/
def KK (x0 f z a b : Nat) : Nat := if z = 0 ∧ x0 ≤ a ∧ a - x0 ≤ f then chs f (a - x0) * fct a * fct b else 0
theorem KKA_b : ((List.range 10).all fun x0 => (List.range 10).all fun x1 => (List.range 10).all fun f => (List.range 10).all fun a => !(decide (x0 + x1 + f ≤ 9) && (decide (1 ≤ a) && decide (a ≤ x0 + x1 + f))) || decide (KK x0 f 0 a (x0 + x1 + f - a) = f * KK x0 (f - 1) 0 (a - 1) (x0 + x1 + f - a) + x0 * KK (x0 - 1) f 0 (a - 1) (x0 + x1 + f - a))) = true := by decide +kernel
theorem KKB_b : ((List.range 10).all fun x0 => (List.range 10).all fun x1 => (List.range 10).all fun f => (List.range 10).all fun a => !(decide (x0 + x1 + f ≤ 9) && decide (a < x0 + x1 + f)) || decide (KK x0 f 0 a (x0 + x1 + f - a) = f * KK x0 (f - 1) 0 a (x0 + x1 + f - a - 1) + x1 * KK x0 f 0 a (x0 + x1 + f - a - 1))) = true := by decide +kernel
theorem KKL_b : ((List.range 10).all fun x0 => (List.range 10).all fun f => (List.range 10).all fun a => (List.range 10).all fun b => !(decide (a + b ≤ 9) && decide (x0 + f ≤ a + b)) || decide (KK x0 f 0 a b ≤ 362880)) = true := by decide +kernel
theorem KKA {x0 x1 f a b : Nat} (h : a + b = x0 + x1 + f) (h9 : x0 + x1 + f ≤ 9) (ha : 1 ≤ a) : KK x0 f 0 a b = f * KK x0 (f - 1) 0 (a - 1) b + x0 * KK (x0 - 1) f 0 (a - 1) b := by
  have t := List.all_eq_true.mp (List.all_eq_true.mp (List.all_eq_true.mp (List.all_eq_true.mp KKA_b x0 (List.mem_range.mpr (by omega))) x1 (List.mem_range.mpr (by omega))) f (List.mem_range.mpr (by omega))) a (List.mem_range.mpr (by omega))
  have ha2 : a ≤ x0 + x1 + f := by omega
  simp only [h9, ha, ha2, decide_true, Bool.and_true, Bool.not_true, Bool.false_or, decide_eq_true_eq] at t
  rw [show x0 + x1 + f - a = b by omega] at t
  exact t
theorem KKB {x0 x1 f a b : Nat} (h : a + b = x0 + x1 + f) (h9 : x0 + x1 + f ≤ 9) (hb : 1 ≤ b) : KK x0 f 0 a b = f * KK x0 (f - 1) 0 a (b - 1) + x1 * KK x0 f 0 a (b - 1) := by
  have t := List.all_eq_true.mp (List.all_eq_true.mp (List.all_eq_true.mp (List.all_eq_true.mp KKB_b x0 (List.mem_range.mpr (by omega))) x1 (List.mem_range.mpr (by omega))) f (List.mem_range.mpr (by omega))) a (List.mem_range.mpr (by omega))
  have ha2 : a < x0 + x1 + f := by omega
  simp only [h9, ha2, decide_true, Bool.and_true, Bool.not_true, Bool.false_or, decide_eq_true_eq] at t
  rw [show x0 + x1 + f - a = b by omega] at t
  exact t
theorem KKL {x0 f z a b : Nat} (hf : x0 + f ≤ a + b) (hab : a + b ≤ 9) : KK x0 f z a b ≤ 362880 := by
  by_cases hz : z = 0
  · subst hz
    have t := List.all_eq_true.mp (List.all_eq_true.mp (List.all_eq_true.mp (List.all_eq_true.mp KKL_b x0 (List.mem_range.mpr (by omega))) f (List.mem_range.mpr (by omega))) a (List.mem_range.mpr (by omega))) b (List.mem_range.mpr (by omega))
    simpa only [hab, hf, decide_true, Bool.and_true, Bool.not_true, Bool.false_or, decide_eq_true_eq] using t
  · unfold KK
    rw [if_neg (fun e => hz e.1)]; omega
theorem fct_pos : ∀ n, 0 < fct n
  | 0 => Nat.one_pos
  | n + 1 => Nat.mul_pos (Nat.succ_pos n) (fct_pos n)
theorem chs_pos : ∀ n k, k ≤ n → 0 < chs n k
  | 0, 0, _ => Nat.one_pos
  | _ + 1, 0, _ => Nat.one_pos
  | 0, k + 1, h => absurd h (by omega)
  | n + 1, k + 1, h => by
    have := chs_pos n k (by omega)
    show 0 < chs n k + chs n (k + 1)
    omega
theorem KK_pos {x0 f z a b : Nat} : 0 < KK x0 f z a b ↔ z = 0 ∧ x0 ≤ a ∧ a - x0 ≤ f := by
  unfold KK
  constructor
  · intro h
    apply Classical.byContradiction
    intro q
    rw [if_neg q] at h; exact Nat.lt_irrefl 0 h
  · intro h
    rw [if_pos h]
    exact Nat.mul_pos (Nat.mul_pos (chs_pos _ _ h.2.2) (fct_pos _)) (fct_pos _)
/-- how many stones of a set are so -/
def cX (X : Nat → Bool) (m : Nat) : Nat := fb_ct (fun s => m.testBit s && X s) 9
theorem cX_le (X : Nat → Bool) (m : Nat) : cX X m ≤ 9 := fb_ct_le _ _
theorem cX_rem {X : Nat → Bool} {m s : Nat} (hm : m < 2 ^ 9) (hs : s < 9) (hb : m.testBit s = true) : cX X (adn m (2 ^ s)) + (if X s = true then 1 else 0) = cX X m := by
  unfold cX
  have h := fb_ct_upd (fun k => m.testBit k && X k) false hs
  have e : fb_ct (fun k => if k = s then false else (m.testBit k && X k)) 9 = fb_ct (fun k => (adn m (2 ^ s)).testBit k && X k) 9 := fb_ct_cong (fun k _ => by
    rw [adn_tb (by omega), Nat.testBit_two_pow]
    by_cases e : k = s
    · subst e; simp
    · have : ¬ s = k := fun q => e q.symm
      rw [if_neg e]; simp [this])
  rw [e] at h
  rw [hb, Bool.true_and] at h
  simp only [Bool.false_eq_true, if_false, Nat.add_zero] at h
  exact h
theorem cX_0 (X : Nat → Bool) : cX X 0 = 0 := fb_ct_zero.mpr (fun k _ => by rw [Nat.zero_testBit, Bool.false_and])
def y0 (a0 a1 : Nat → Bool) (s : Nat) : Bool := a0 s && !a1 s
def y1 (a0 a1 : Nat → Bool) (s : Nat) : Bool := !a0 s && a1 s
def yf (a0 a1 : Nat → Bool) (s : Nat) : Bool := a0 s && a1 s
def yz (a0 a1 : Nat → Bool) (s : Nat) : Bool := !a0 s && !a1 s
theorem cX_tot (a0 a1 : Nat → Bool) (m : Nat) : fb_ct m.testBit 9 = cX (y0 a0 a1) m + cX (y1 a0 a1) m + cX (yf a0 a1) m + cX (yz a0 a1) m := by
  unfold cX y0 y1 yf yz
  have h : ∀ n, fb_ct m.testBit n = fb_ct (fun s => m.testBit s && (a0 s && !a1 s)) n + fb_ct (fun s => m.testBit s && (!a0 s && a1 s)) n + fb_ct (fun s => m.testBit s && (a0 s && a1 s)) n + fb_ct (fun s => m.testBit s && (!a0 s && !a1 s)) n := by
    intro n
    induction n with
    | zero => rfl
    | succ n ih =>
      simp only [fb_ct_succ, ih]
      cases m.testBit n <;> cases a0 n <;> cases a1 n <;> simp <;> omega
  exact h 9
def Kc (a0 a1 : Nat → Bool) (m a b : Nat) : Nat := KK (cX (y0 a0 a1) m) (cX (yf a0 a1) m) (cX (yz a0 a1) m) a b
theorem sm_split (P Q : Nat → Bool) (A B : Nat) : ∀ n, fb_sm (fun s => if P s = true then (if Q s = true then A else B) else 0) n = fb_ct (fun s => P s && Q s) n * A + fb_ct (fun s => P s && !Q s) n * B := by
  intro n
  induction n with
  | zero => simp [fb_sm, fb_ct]
  | succ n ih =>
    rw [fb_sm_succ, ih, fb_ct_succ, fb_ct_succ, Nat.add_mul, Nat.add_mul]
    cases P n <;> cases Q n <;> simp <;> omega
/-- the last one, or the first one, is painted by painter 0 -/
theorem Kc_sum0 {a0 a1 : Nat → Bool} {m a b : Nat} (hm : m < 2 ^ 9) (h : a + b = fb_ct m.testBit 9) (ha : 1 ≤ a) : fb_sm (fun s => if (m.testBit s && a0 s) = true then Kc a0 a1 (adn m (2 ^ s)) (a - 1) b else 0) 9 = Kc a0 a1 m a b := by
  have ht := cX_tot a0 a1 m
  have h9 := fb_ct_le m.testBit 9
  have hterm : ∀ s, s < 9 → (if (m.testBit s && a0 s) = true then Kc a0 a1 (adn m (2 ^ s)) (a - 1) b else 0) = (if (m.testBit s && a0 s) = true then (if a1 s = true then KK (cX (y0 a0 a1) m) (cX (yf a0 a1) m - 1) (cX (yz a0 a1) m) (a - 1) b else KK (cX (y0 a0 a1) m - 1) (cX (yf a0 a1) m) (cX (yz a0 a1) m) (a - 1) b) else 0) := by
    intro s hs
    by_cases hb : (m.testBit s && a0 s) = true
    · rw [if_pos hb, if_pos hb]
      rw [Bool.and_eq_true] at hb
      have r0 := cX_rem (X := y0 a0 a1) hm hs hb.1
      have rf := cX_rem (X := yf a0 a1) hm hs hb.1
      have rz := cX_rem (X := yz a0 a1) hm hs hb.1
      unfold y0 at r0; unfold yf at rf; unfold yz at rz
      rw [hb.2] at r0 rf rz
      unfold Kc y0 yf yz
      unfold y0 yf yz at *
      cases h1 : a1 s
      · rw [h1] at r0 rf rz
        simp only [Bool.not_false, Bool.and_true, Bool.and_false, Bool.not_true, Bool.false_and, Bool.false_eq_true, if_true, if_false, Nat.add_zero] at r0 rf rz ⊢
        rw [rf, rz, ← r0, Nat.add_sub_cancel]
      · rw [h1] at r0 rf rz
        simp only [Bool.not_true, Bool.and_true, Bool.and_false, Bool.false_eq_true, if_true, if_false, Nat.add_zero] at r0 rf rz ⊢
        rw [r0, rz, ← rf, Nat.add_sub_cancel]
    · rw [if_neg hb, if_neg hb]
  rw [fb_sm_cong hterm, sm_split]
  have e1 : fb_ct (fun s => (m.testBit s && a0 s) && a1 s) 9 = cX (yf a0 a1) m := fb_ct_cong (fun s _ => by unfold yf; rw [Bool.and_assoc])
  have e2 : fb_ct (fun s => (m.testBit s && a0 s) && !a1 s) 9 = cX (y0 a0 a1) m := fb_ct_cong (fun s _ => by unfold y0; rw [Bool.and_assoc])
  rw [e1, e2]
  unfold Kc
  by_cases hz : cX (yz a0 a1) m = 0
  · rw [hz]
    exact (KKA (x1 := cX (y1 a0 a1) m) (by omega) (by omega) ha).symm
  · unfold KK
    simp only [hz, false_and, if_false, Nat.mul_zero]
theorem Kc_sum1 {a0 a1 : Nat → Bool} {m a b : Nat} (hm : m < 2 ^ 9) (h : a + b = fb_ct m.testBit 9) (hb1 : 1 ≤ b) : fb_sm (fun s => if (m.testBit s && a1 s) = true then Kc a0 a1 (adn m (2 ^ s)) a (b - 1) else 0) 9 = Kc a0 a1 m a b := by
  have ht := cX_tot a0 a1 m
  have h9 := fb_ct_le m.testBit 9
  have hterm : ∀ s, s < 9 → (if (m.testBit s && a1 s) = true then Kc a0 a1 (adn m (2 ^ s)) a (b - 1) else 0) = (if (m.testBit s && a1 s) = true then (if a0 s = true then KK (cX (y0 a0 a1) m) (cX (yf a0 a1) m - 1) (cX (yz a0 a1) m) a (b - 1) else KK (cX (y0 a0 a1) m) (cX (yf a0 a1) m) (cX (yz a0 a1) m) a (b - 1)) else 0) := by
    intro s hs
    by_cases hb : (m.testBit s && a1 s) = true
    · rw [if_pos hb, if_pos hb]
      rw [Bool.and_eq_true] at hb
      have r0 := cX_rem (X := y0 a0 a1) hm hs hb.1
      have rf := cX_rem (X := yf a0 a1) hm hs hb.1
      have rz := cX_rem (X := yz a0 a1) hm hs hb.1
      unfold y0 at r0; unfold yf at rf; unfold yz at rz
      rw [hb.2] at r0 rf rz
      unfold Kc y0 yf yz
      unfold y0 yf yz at *
      cases h1 : a0 s
      · rw [h1] at r0 rf rz
        simp only [Bool.not_false, Bool.and_true, Bool.and_false, Bool.not_true, Bool.false_and, Bool.false_eq_true, if_true, if_false, Nat.add_zero] at r0 rf rz ⊢
        rw [r0, rf, rz]
      · rw [h1] at r0 rf rz
        simp only [Bool.not_true, Bool.and_true, Bool.and_false, Bool.false_and, Bool.false_eq_true, if_true, if_false, Nat.add_zero] at r0 rf rz ⊢
        rw [r0, rz, ← rf, Nat.add_sub_cancel]
    · rw [if_neg hb, if_neg hb]
  rw [fb_sm_cong hterm, sm_split]
  have e1 : fb_ct (fun s => (m.testBit s && a1 s) && a0 s) 9 = cX (yf a0 a1) m := fb_ct_cong (fun s _ => by unfold yf; rw [Bool.and_assoc, Bool.and_comm (a1 s)])
  have e2 : fb_ct (fun s => (m.testBit s && a1 s) && !a0 s) 9 = cX (y1 a0 a1) m := fb_ct_cong (fun s _ => by unfold y1; rw [Bool.and_assoc, Bool.and_comm (a1 s)])
  rw [e1, e2]
  unfold Kc
  by_cases hz : cX (yz a0 a1) m = 0
  · rw [hz]
    exact (KKB (x1 := cX (y1 a0 a1) m) (by omega) (by omega) hb1).symm
  · unfold KK
    simp only [hz, false_and, if_false, Nat.mul_zero]
/-- who has the paint of a stone -/
def bA (g : JP) (w : JW) (i : Nat) : Nat → Bool := fun s => pH g i (w.1 s)
def lsB (g : JP) (w : JW) (X : Nat → Bool) : Nat := nb 9 (fun s => (frS w).testBit s && X s)
theorem lsB_ct (g : JP) (w : JW) (X : Nat → Bool) : fb_ct (lsB g w X).testBit 32 = cX X (frS w) := by
  unfold lsB cX
  rw [ct_nb (by omega)]
theorem fr_tb {w : JW} {s : Nat} : (frS w).testBit s = (decide (s < 9) && decide (s ∈ w.2.1)) := nb_tb 9 _ s
theorem x_stonesIn {g : JP} (hg : GOK g) {w : JW} (hW : WOK g w) {pt : Int32} {Q : Nat → Bool} (hQ : ∀ j, j < 3 → (pt >>> (nI j &&& 31)) &&& 1 = nI (Q (j + 1)).toNat) {F : Nat} (hF : 5 ≤ F) : fX2_stonesIn F (nI (looseS g w.1)) pt = some (nI (lsB g w (fun s => Q (w.1 s)))) := by
  unfold fX2_stonesIn lX2_stonesIn_4
  have hone : ∀ s, s < 9 → (decide (s ∈ w.2.1) = true ↔ ∃ p, 1 ≤ p ∧ p ≤ 3 ∧ (decide (w.1 s = p) && !decide (pO g s = p)) = true) := by
    intro s hs
    have ho := hW.2.2.2.1 s
    have hold := hW.2.2.2.2.1 s
    have hP := hW.2.2.2.2.2 s
    have hP3 := hg.2.2.2.2.1
    rw [decide_eq_true_eq]
    constructor
    · intro h
      have := hW.lt hg h
      refine ⟨w.1 s, by omega, by omega, ?_⟩
      rw [this.2.2.2]
      have : ¬ 0 = w.1 s := by omega
      simp [this]
    · rintro ⟨p, p1, p3, h⟩
      simp only [Bool.and_eq_true, decide_eq_true_eq, Bool.not_eq_true', decide_eq_false_iff_not] at h
      by_cases h0 : pO g s = 0
      · exact ho.mpr ⟨h0, by omega⟩
      · have := hold h0; omega
  refine jl_run2 (fun d x y => ∃ t, y = nI (t + 1) ∧ t + d = 3 ∧ x = nI (nb 9 (fun s => decide (s ∈ w.2.1) && (decide (w.1 s ≤ t) && Q (w.1 s))))) ?_ F 3 _ _ ⟨0, rfl, rfl, ?_⟩ (by omega)
  · rintro d x y ⟨t, rfl, hd, rfl⟩
    rcases Nat.eq_zero_or_pos d with h0 | h0
    · left; intro k
      have : t = 3 := by omega
      subst this
      unfold bX2_stonesIn_4
      rw [if_pos (by decide)]
      unfold lsB
      refine congrArg (fun z => some (nI z)) (nb_cong (fun s hs => ?_))
      rw [fr_tb, decide_eq_true hs, Bool.true_and]
      by_cases hm : s ∈ w.2.1
      · have := hW.lt hg hm
        have h3 : w.1 s ≤ 3 := by have := hg.2.2.2.2.1; omega
        simp [h3]
      · simp [hm]
    · right
      refine ⟨d - 1, _, _, by omega, ⟨t + 1, rfl, by omega, rfl⟩, ?_⟩
      intro k
      unfold bX2_stonesIn_4 fX2_stonesIn_29
      have hone' : nI (t + 1) + Int32.ofInt 1 = nI (t + 1 + 1) := nI_add (t + 1) 1
      have hm1 : nI (t + 1) - (1 : Int32) = nI t := nI_pred t
      have hx : fX3_stonesWith (nI (looseS g w.1)) (nI (t + 1)) = some (nI (nb 9 (fun s => decide (w.1 s = t + 1) && !decide (pO g s = t + 1)))) := by
        unfold looseS
        exact x_stonesWith (by omega) (by omega)
      rw [if_neg (by rw [show (3 : Int32) = nI 3 from rfl, nI_ltI (by omega) (by omega)]; omega), hm1, hQ t (by omega), hx]
      simp only [Option.bind_some, jl_let_eq, hone']
      have step : ∀ v : Bool, v = Q (t + 1) → nI (nb 9 (fun s => decide (s ∈ w.2.1) && (decide (w.1 s ≤ t + 1) && Q (w.1 s)))) = nI (nb 9 (fun s => decide (s ∈ w.2.1) && (decide (w.1 s ≤ t) && Q (w.1 s)))) ||| nI (if v = true then nb 9 (fun s => decide (w.1 s = t + 1) && !decide (pO g s = t + 1)) else 0) := by
        intro v hv
        rw [ni_or]
        symm
        refine congrArg nI (nb_ext (Nat.or_lt_two_pow (nb_lt _ _) (by split; exact nb_lt _ _; omega)) (fun s hs => ?_))
        rw [Nat.testBit_or, nb_tb, decide_eq_true hs, Bool.true_and]
        have hS := hone s hs
        apply Bool.eq_iff_iff.mpr
        cases v
        · simp only [Bool.false_eq_true, if_false, Nat.zero_testBit, Bool.or_false, Bool.and_eq_true, decide_eq_true_eq]
          constructor
          · rintro ⟨a, b, c⟩; exact ⟨a, by omega, c⟩
          · rintro ⟨a, b, c⟩
            refine ⟨a, ?_, c⟩
            by_cases e : w.1 s = t + 1
            · rw [e, ← hv] at c; cases c
            · omega
        · simp only [if_true, nb_tb, Bool.or_eq_true, Bool.and_eq_true, decide_eq_true_eq, hs, true_and, Bool.not_eq_true', decide_eq_false_iff_not]
          constructor
          · rintro (⟨a, b, c⟩ | ⟨a, b⟩)
            · exact ⟨a, by omega, c⟩
            · have hmem : s ∈ w.2.1 := by
                have := hS.mpr ⟨t + 1, by omega, by omega, by simp [a, b]⟩
                exact of_decide_eq_true this
              exact ⟨hmem, by omega, by rw [a]; exact hv.symm⟩
          · rintro ⟨a, b, c⟩
            by_cases e : w.1 s = t + 1
            · right
              have := (hW.lt hg a).2.2.2
              exact ⟨e, by omega⟩
            · exact Or.inl ⟨a, by omega, c⟩
      cases hv : Q (t + 1) with
      | false => rw [if_f, step false hv.symm, if_neg (by decide)]; rfl
      | true => rw [if_t, step true hv.symm, if_pos rfl]
  · rw [nb_cong (g := fun _ => false) (fun s hs => by
      by_cases hm : s ∈ w.2.1
      · have := hW.lt hg hm
        have h3 : ¬ w.1 s ≤ 0 := by omega
        simp only [h3, decide_false, Bool.false_and, Bool.and_false]
      · simp only [hm, decide_false, Bool.false_and])]
    rfl
theorem q3 : ∀ q0, q0 < 8 → ∀ q1, q1 < 8 → ∀ j, j < 3 → ((nI q0 &&& (nI q1 ^^^ (-1 : Int32))) >>> (nI j &&& 31)) &&& 1 = nI (q0.testBit j && !q1.testBit j).toNat ∧ ((nI q0 &&& nI q1) >>> (nI j &&& 31)) &&& 1 = nI (q0.testBit j && q1.testBit j).toNat ∧ (((nI q0 ^^^ (-1 : Int32)) &&& (nI q1 ^^^ (-1 : Int32))) >>> (nI j &&& 31)) &&& 1 = nI (!q0.testBit j && !q1.testBit j).toNat := by decide
theorem x_byOne {g : JP} (hg : GOK g) {rows columns paints apart po0 po1 old shut : Int32} (hXU : XU g rows columns paints apart po0 po1 old shut) {w : JW} (hW : WOK g w) {i F : Nat} (hi : i ≤ 1) (hF : 5 ≤ F) : fX2_byOneAlone F paints po0 po1 (nI (looseS g w.1)) (nI i) = some (nI (lsB g w (fun s => bA g w i s && !bA g w (1 - i) s))) := by
  unfold fX2_byOneAlone
  rw [turn_1 hi, x_paintsOf hg hXU hi, Option.bind_some, x_paintsOf hg hXU (show 1 - i ≤ 1 by omega), Option.bind_some, x_stonesIn hg hW (Q := fun p => pH g i p && !pH g (1 - i) p) (fun j hj => by
    have := (q3 (nb 3 (fun j => pH g i (j + 1))) (nb_lt 3 _) (nb 3 (fun j => pH g (1 - i) (j + 1))) (nb_lt 3 _) j hj).1
    rw [this, nb_tb, nb_tb]; simp [hj]) hF, Option.bind_some]
  rfl
theorem x_byEither {g : JP} (hg : GOK g) {rows columns paints apart po0 po1 old shut : Int32} (hXU : XU g rows columns paints apart po0 po1 old shut) {w : JW} (hW : WOK g w) {F : Nat} (hF : 5 ≤ F) : fX2_byEither F paints po0 po1 (nI (looseS g w.1)) = some (nI (lsB g w (fun s => bA g w 0 s && bA g w 1 s))) := by
  unfold fX2_byEither
  rw [show (0 : Int32) = nI 0 from rfl, show (1 : Int32) = nI 1 from rfl, x_paintsOf hg hXU (by omega), Option.bind_some, x_paintsOf hg hXU (by omega), Option.bind_some, x_stonesIn hg hW (Q := fun p => pH g 0 p && pH g 1 p) (fun j hj => by
    have := (q3 (nb 3 (fun j => pH g 0 (j + 1))) (nb_lt 3 _) (nb 3 (fun j => pH g 1 (j + 1))) (nb_lt 3 _) j hj).2.1
    rw [this, nb_tb, nb_tb]; simp [hj]) hF, Option.bind_some]
  rfl
theorem x_byNeither {g : JP} (hg : GOK g) {rows columns paints apart po0 po1 old shut : Int32} (hXU : XU g rows columns paints apart po0 po1 old shut) {w : JW} (hW : WOK g w) {F : Nat} (hF : 5 ≤ F) : fX2_byNeither F paints po0 po1 (nI (looseS g w.1)) = some (nI (lsB g w (fun s => !bA g w 0 s && !bA g w 1 s))) := by
  unfold fX2_byNeither
  rw [show (0 : Int32) = nI 0 from rfl, show (1 : Int32) = nI 1 from rfl, x_paintsOf hg hXU (by omega), Option.bind_some, x_paintsOf hg hXU (by omega), Option.bind_some, x_stonesIn hg hW (Q := fun p => !pH g 0 p && !pH g 1 p) (fun j hj => by
    have := (q3 (nb 3 (fun j => pH g 0 (j + 1))) (nb_lt 3 _) (nb 3 (fun j => pH g 1 (j + 1))) (nb_lt 3 _) j hj).2.2
    rw [show nI 1 = (1 : Int32) from rfl] at *
    rw [this, nb_tb, nb_tb]; simp [hj]) hF, Option.bind_some]
  rfl
theorem chs_step : ∀ f, f < 10 → ∀ i, i < f → chs f i * (f - i) / (i + 1) = chs f (i + 1) ∧ chs f i * (f - i) < 2000 := by decide
theorem x_choose {f k F : Nat} (hf : f ≤ 9) (hk : k ≤ f) (hF : 12 ≤ F) : fX2_choose F (nI f) (nI k) = some (nI (chs f k)) := by
  unfold fX2_choose lX2_choose_4
  refine jl_run2 (fun d x y => ∃ t, y = nI t ∧ t + d = k ∧ x = nI (chs f t)) ?_ F k _ _ ⟨0, rfl, by omega, by cases f <;> rfl⟩ (by omega)
  rintro d x y ⟨t, rfl, hd, rfl⟩
  rcases Nat.eq_zero_or_pos d with h0 | h0
  · left; intro K
    have : t = k := by omega
    subst this
    unfold bX2_choose_4
    rw [if_pos (by rw [nI_leI (by omega) (by omega)]; exact Nat.le_refl _)]
  · right
    refine ⟨d - 1, _, _, by omega, ⟨t + 1, rfl, by omega, rfl⟩, ?_⟩
    intro K
    unfold bX2_choose_4
    obtain ⟨h1, h2⟩ := chs_step f (by omega) t (by omega)
    have hone : nI t + Int32.ofInt 1 = nI (t + 1) := nI_add t 1
    have ho : nI t + (1 : Int32) = nI (t + 1) := nI_add t 1
    rw [if_neg (by rw [nI_leI (by omega) (by omega)]; omega), if_neg (by rw [show (9 : Int32) = nI 9 from rfl, nI_leI (by omega) (by omega)]; omega), ho, if_neg (by rw [show (0 : Int32) = nI 0 from rfl, nI_eq (by omega) (by omega)]; omega), pk_sub (show t ≤ f by omega), pk_mul, pk_div (by omega) (by omega) (by omega), h1]
    simp only [jl_let_eq, hone]
theorem x_rowsOf {n F : Nat} (hn : n ≤ 9) (hF : 12 ≤ F) : fX2_rowsOf F (nI n) = some (nI (fct n)) := by
  unfold fX2_rowsOf lX2_rowsOf_4
  have hmain : ∀ m t, t + m = n → 1 ≤ t → ∀ f, m < f → jl_loop2 (bX2_rowsOf_4 F (nI n)) f (nI (fct t)) (nI (t + 1)) = some (nI (fct n)) := by
    intro m
    induction m with
    | zero =>
      intro t ht h1 f hf
      obtain ⟨f', rfl⟩ : ∃ f', f = f' + 1 := ⟨f - 1, by omega⟩
      have : t = n := by omega
      subst this
      rw [jl_loop2_s]; unfold bX2_rowsOf_4
      rw [if_pos (by rw [nI_ltI (by omega) (by omega)]; omega)]
    | succ m ih =>
      intro t ht h1 f hf
      obtain ⟨f', rfl⟩ : ∃ f', f = f' + 1 := ⟨f - 1, by omega⟩
      have hone : nI (t + 1) + Int32.ofInt 1 = nI (t + 1 + 1) := nI_add (t + 1) 1
      have hr := ih (t + 1) (by omega) (by omega) f' (by omega)
      rw [jl_loop2_s]
      generalize jl_loop2 (bX2_rowsOf_4 F (nI n)) f' = L at hr ⊢
      unfold bX2_rowsOf_4
      rw [if_neg (by rw [nI_ltI (by omega) (by omega)]; omega), if_neg (by rw [show (9 : Int32) = nI 9 from rfl, nI_ltI (by omega) (by omega)]; omega), pk_mul, jl_let_eq, jl_let_eq, hone, Nat.mul_comm]
      exact hr
  rcases Nat.eq_zero_or_pos n with h0 | h0
  · subst h0
    obtain ⟨f', rfl⟩ : ∃ f', F = f' + 1 := ⟨F - 1, by omega⟩
    rw [jl_loop2_s]; unfold bX2_rowsOf_4
    rw [if_pos (by decide)]; rfl
  · exact hmain (n - 1) 1 (by omega) (Nat.le_refl 1) F (by omega)
theorem sub9 : ∀ a, a < 10 → ∀ b, b < 10 → (nI a - nI b < 0) = (a < b) := by decide
/-- how many orders -/
def ordN (g : JP) (w : JW) : Nat := Kc (bA g w 0) (bA g w 1) (frS w) ((w.2.1.length + 1) / 2) (w.2.1.length / 2)
theorem fr_ct {g : JP} (hg : GOK g) {w : JW} (hW : WOK g w) : fb_ct (frS w).testBit 9 = w.2.1.length := by
  unfold frS
  rw [ct_nb (Nat.le_refl 9)]
  exact ct_mem w.2.1 9 hW.2.2.1 (fun s hs => Nat.lt_of_lt_of_le (hW.lt hg hs).1 hg.2.2.1)
theorem x_ordersOf {g : JP} (hg : GOK g) {rows columns paints apart po0 po1 old shut : Int32} (hXU : XU g rows columns paints apart po0 po1 old shut) {w : JW} (hW : WOK g w) {F : Nat} (hF : 12 ≤ F) : fX2_ordersOf F paints po0 po1 (nI (looseS g w.1)) = some (nI (ordN g w)) := by
  have hl9 := hW.len9 hg
  unfold fX2_ordersOf
  have hlt : ∀ X, lsB g w X < 2 ^ 31 := fun X => nb_lt31 (by omega) _
  have e0 := x_byOne hg hXU hW (i := 0) (by omega) (F := F) (by omega)
  have hd2 : nI w.2.1.length / 2 = nI (w.2.1.length / 2) := pk_div (d := 2) (by omega) (by omega) (by omega)
  have hA : nI w.2.1.length - nI (w.2.1.length / 2) = nI ((w.2.1.length + 1) / 2) := by
    rw [pk_sub (by omega)]; congr 1; omega
  have hB : nI w.2.1.length - nI ((w.2.1.length + 1) / 2) = nI (w.2.1.length / 2) := by
    rw [pk_sub (by omega)]; congr 1; omega
  rw [bitCount_ok (looseS_lt31 _ _), Option.bind_some, loose_ct hg hW, hd2, hA, jl_let_eq, x_byEither hg hXU hW (by omega), Option.bind_some, bitCount_ok (hlt _), Option.bind_some, lsB_ct, show (0 : Int32) = nI 0 from rfl, e0, Option.bind_some, bitCount_ok (hlt _), Option.bind_some, lsB_ct, jl_let_eq, x_byNeither hg hXU hW (by omega), Option.bind_some]
  have hx0 := cX_le (fun s => bA g w 0 s && !bA g w (1 - 0) s) (frS w)
  have hxf := cX_le (fun s => bA g w 0 s && bA g w 1 s) (frS w)
  have hzz : lsB g w (fun s => !bA g w 0 s && !bA g w 1 s) = 0 ↔ cX (yz (bA g w 0) (bA g w 1)) (frS w) = 0 := by
    unfold lsB cX yz
    rw [nb_zero, fb_ct_zero]
  have hs := sub9 ((w.2.1.length + 1) / 2) (by omega) (cX (fun s => bA g w 0 s && !bA g w (1 - 0) s) (frS w)) (by omega)
  unfold ordN Kc KK
  have ey0 : cX (y0 (bA g w 0) (bA g w 1)) (frS w) = cX (fun s => bA g w 0 s && !bA g w (1 - 0) s) (frS w) := rfl
  have eyf : cX (yf (bA g w 0) (bA g w 1)) (frS w) = cX (fun s => bA g w 0 s && bA g w 1 s) (frS w) := rfl
  rw [ey0, eyf]
  generalize hc0 : cX (fun s => bA g w 0 s && !bA g w (1 - 0) s) (frS w) = c0 at *
  generalize hcf : cX (fun s => bA g w 0 s && bA g w 1 s) (frS w) = cf at *
  by_cases hz : lsB g w (fun s => !bA g w 0 s && !bA g w 1 s) = 0
  · rw [if_pos (by rw [hz])]
    by_cases h1 : (w.2.1.length + 1) / 2 < c0
    · rw [if_pos (by rw [show nI 0 = (0 : Int32) from rfl, hs]; exact h1), if_neg (fun e => by omega)]
    · rw [if_neg (by rw [show nI 0 = (0 : Int32) from rfl, hs]; exact h1), pk_sub (by omega)]
      by_cases h2 : (w.2.1.length + 1) / 2 - c0 ≤ cf
      · rw [if_pos (by rw [nI_leI (by omega) (by omega)]; exact h2), x_choose hxf h2 (by omega), Option.bind_some, x_rowsOf (by omega) (by omega), Option.bind_some, hB, x_rowsOf (by omega) (by omega), Option.bind_some, pk_mul, pk_mul, if_pos ⟨hzz.mp hz, by omega, h2⟩]
      · rw [if_neg (by rw [nI_leI (by omega) (by omega)]; exact h2), if_neg (fun e => h2 e.2.2)]
  · rw [if_neg (by rw [nI_eq (hlt _) (by omega)]; exact hz), if_neg (fun e => hz (hzz.mpr e.1))]
