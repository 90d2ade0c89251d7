/-! orders: the reference counts over sets -/
theorem isBy_ok {g : JP} {stones : Int32} {told touches has old beside slot : Nat → Int32} (hM : MR g stones told touches has old beside) {w : JW} (hS : SW slot 0 w) {s n : Nat} (hs : s < 9) (h1 : 1 ≤ w.1 s) (h3 : w.1 s ≤ 3) (hn : n < 2 ^ 31) : fX10_isBy has slot (nI s) (nI n) = some (nI (bA g w (n % 2) s).toNat) := by
  unfold fX10_isBy
  have hr : nI n - nI n / 2 * 2 = nI (n % 2) := pk_rem (d := 2) hn (by omega) (by omega)
  have e := hS.1 s hs
  rw [Nat.mul_zero, Nat.zero_add] at e
  have hb := has_bit hM (i := n % 2) (p := w.1 s) (by omega) h1 h3
  rw [hr, nI_clamp (by omega), if_neg (by
    rintro (q | q)
    · exact nI_pos (by omega) q
    · omega), nI_clamp (by omega), if_neg (by
    rintro (q | q)
    · exact nI_pos (by omega) q
    · omega), e, show (1 : Int32) = nI 1 from rfl, show (31 : Int32) = nI 31 from rfl, hb]
  unfold bA
  cases pH g (n % 2) (w.1 s) <;> rfl
def KF (g : JP) (w : JW) (m : Nat) : Nat := Kc (bA g w 0) (bA g w 1) m ((fb_ct m.testBit 9 + 1) / 2) (fb_ct m.testBit 9 / 2)
def KB (g : JP) (w : JW) (m : Nat) : Nat := Kc (bA g w 0) (bA g w 1) (adn (frS w) m) ((w.2.1.length + 1) / 2 - (fb_ct m.testBit 9 + 1) / 2) (w.2.1.length / 2 - fb_ct m.testBit 9 / 2)
theorem rem_ct {m s : Nat} (hm : m < 2 ^ 9) (hs : s < 9) (hb : m.testBit s = true) : fb_ct (adn m (2 ^ s)).testBit 9 + 1 = fb_ct m.testBit 9 := by
  have h := cX_rem (X := fun _ => true) hm hs hb
  unfold cX at h
  rw [if_pos rfl] at h
  have e : ∀ k, fb_ct (fun s => k s && true) 9 = fb_ct k 9 := fun k => fb_ct_cong (fun s _ => Bool.and_true _)
  rw [e, e] at h
  exact h
theorem rem_lt {m s : Nat} (hm : m < 2 ^ 9) (hb : m.testBit s = true) : adn m (2 ^ s) < m := by
  have h1 : adn m (2 ^ s) ≤ m := Nat.and_le_left
  have h2 : adn m (2 ^ s) ≠ m := by
    intro e
    have := congrArg (fun z => z.testBit s) e
    simp only [adn_tb (show m < 2 ^ 32 by omega), Nat.testBit_two_pow, hb, decide_true, Bool.not_true, Bool.and_false] at this
    cases this
  omega
theorem sub_tb {m k : Nat} (hm : m < 2 ^ 9) (h : adn m k = 0) {s : Nat} (hs : m.testBit s = true) : k.testBit s = true := by
  have := congrArg (fun z => z.testBit s) h
  simp only [adn_tb (show m < 2 ^ 32 by omega), hs, Bool.true_and, Nat.zero_testBit, Bool.not_eq_false'] at this
  exact this
theorem sub_of {m k : Nat} (hm : m < 2 ^ 9) (h : ∀ s, m.testBit s = true → k.testBit s = true) : adn m k = 0 := by
  apply Nat.eq_of_testBit_eq; intro s
  rw [adn_tb (by omega), Nat.zero_testBit]
  cases hs : m.testBit s
  · rfl
  · rw [h s hs]; rfl
theorem fr_lt {g : JP} (hg : GOK g) {w : JW} (hW : WOK g w) {s : Nat} (hs : (frS w).testBit s = true) : s < pn g ∧ 1 ≤ w.1 s ∧ w.1 s ≤ 3 ∧ s ∈ w.2.1 := by
  rw [fr_tb, Bool.and_eq_true, decide_eq_true_eq, decide_eq_true_eq] at hs
  have := hW.lt hg hs.2
  have := hg.2.2.2.2.1
  exact ⟨by omega, by omega, by omega, hs.2⟩
theorem sm_cut {f : Nat → Nat} {n : Nat} (hn : n ≤ 9) (h : ∀ s, n ≤ s → s < 9 → f s = 0) : fb_sm f n = fb_sm f 9 := by
  obtain ⟨u, hu⟩ : ∃ u, 9 = n + u := ⟨9 - n, by omega⟩
  rw [hu, fb_sm_split]
  have : ∀ j, j < u → f (n + j) = 0 := fun j hj => h _ (by omega) (by omega)
  rw [fb_sm_cong this, fb_sm_const, Nat.mul_zero, Nat.add_zero]
/-- what is added for a set, from the sets without its last stone -/
def fT (g : JP) (w : JW) (t s : Nat) : Nat := if (t.testBit s && bA g w ((fb_ct t.testBit 9 - 1) % 2) s) = true then KF g w (adn t (2 ^ s)) else 0
theorem fT_sum {g : JP} (hg : GOK g) {w : JW} (hW : WOK g w) {t : Nat} (ht : t < 2 ^ 9) (hsub : adn t (frS w) = 0) : (if t = 0 then 1 else 0) + fb_sm (fT g w t) (pn g) = KF g w t := by
  obtain ⟨hn1, hn9, -, -⟩ := gn hg
  rw [sm_cut hn9 (fun s h1 h2 => by
    unfold fT
    rw [if_neg]
    intro h
    rw [Bool.and_eq_true] at h
    have := (fr_lt hg hW (sub_tb ht hsub h.1)).1
    omega)]
  by_cases h0 : t = 0
  · subst h0
    rw [if_pos rfl]
    have : ∀ s, s < 9 → fT g w 0 s = 0 := fun s _ => by unfold fT; rw [Nat.zero_testBit]; rfl
    rw [fb_sm_cong this, fb_sm_const]
    have hz : fb_ct (Nat.testBit 0) 9 = 0 := fb_ct_zero.mpr (fun k _ => Nat.zero_testBit k)
    unfold KF Kc
    rw [hz, cX_0, cX_0, cX_0]; rfl
  · rw [if_neg h0, Nat.zero_add]
    have hpos : 0 < fb_ct t.testBit 9 := by
      rcases Nat.eq_zero_or_pos (fb_ct t.testBit 9) with q | q
      · exfalso
        apply h0
        rw [fb_ct_zero] at q
        rw [← nb_of (n := 9) ht]
        exact nb_zero.mpr q
      · exact q
    have hrem : ∀ s, s < 9 → t.testBit s = true → fb_ct (adn t (2 ^ s)).testBit 9 = fb_ct t.testBit 9 - 1 := fun s hs hb => by
      have := rem_ct ht hs hb; omega
    unfold KF
    rcases (show (fb_ct t.testBit 9 - 1) % 2 = 0 ∨ (fb_ct t.testBit 9 - 1) % 2 = 1 by omega) with q | q
    · rw [← Kc_sum0 (a0 := bA g w 0) (a1 := bA g w 1) ht (a := (fb_ct t.testBit 9 + 1) / 2) (b := fb_ct t.testBit 9 / 2) (by omega) (by omega)]
      refine fb_sm_cong (fun s hs => ?_)
      unfold fT KF
      rw [q]
      by_cases hb : (t.testBit s && bA g w 0 s) = true
      · rw [if_pos hb, if_pos hb]
        rw [Bool.and_eq_true] at hb
        rw [hrem s hs hb.1]
        congr 1 <;> omega
      · rw [if_neg hb, if_neg hb]
    · rw [← Kc_sum1 (a0 := bA g w 0) (a1 := bA g w 1) ht (a := (fb_ct t.testBit 9 + 1) / 2) (b := fb_ct t.testBit 9 / 2) (by omega) (by omega)]
      refine fb_sm_cong (fun s hs => ?_)
      unfold fT KF
      rw [q]
      by_cases hb : (t.testBit s && bA g w 1 s) = true
      · rw [if_pos hb, if_pos hb]
        rw [Bool.and_eq_true] at hb
        rw [hrem s hs hb.1]
        congr 1 <;> omega
      · rw [if_neg hb, if_neg hb]
theorem ni_sub0 {a b : Nat} (ha : a < 2 ^ 9) : (nI a &&& (nI b ^^^ (-1 : Int32)) = 0) = (adn a b = 0) := by
  rw [ni_m1, ni_adn, show (0 : Int32) = nI 0 from rfl, ni_eq (adn_lt (by omega)) (by omega)]
theorem in512 {x : Nat} (h : x < 512) : ¬ (nI x < 0 ∨ 512 ≤ (nI x).toNatClampNeg) := by
  rw [nI_clamp (by omega)]
  rintro (q | q)
  · exact nI_pos (by omega) q
  · omega
/-- one set of the first table -/
theorem fore_in {g : JP} (hg : GOK g) {stones : Int32} {told touches has old beside slot : Nat → Int32} (hM : MR g stones told touches has old beside) {w : JW} (hW : WOK g w) (hS : SW slot 0 w) {F : Nat} (hF : 12 ≤ F) {t : Nat} (ht : t < 512) (back : Nat → Int32) (hsub : adn t (frS w) = 0) :
    ∀ m u v (fore : Nat → Int32), u + m = pn g → fore t = nI v → (∀ j, j < t → adn j (frS w) = 0 → fore j = nI (KF g w j)) → ∃ fore', (∀ (K : Int32 → Int32 → (Nat → Int32) → (Nat → Int32) → Option (Int32 × (Nat → Int32) × (Nat → Int32))) f, m < f → jl_loop5 (bX10_ordersOf_31 F stones has slot K) f (nI (frS w)) (nI t) (nI u) fore back = K (nI (frS w)) (nI (t + 1)) fore' back) ∧ fore' t = nI (v + fb_sm (fun s => fT g w t (u + s)) m) ∧ ∀ j, j < t → adn j (frS w) = 0 → fore' j = nI (KF g w j) := by
  obtain ⟨hn1, hn9, -, -⟩ := gn hg
  have hfr := frS_lt w
  intro m
  induction m with
  | zero =>
    intro u v fore hu hv hj
    refine ⟨fore, fun K f hf => ?_, by rw [show fb_sm _ 0 = 0 from rfl, Nat.add_zero]; exact hv, hj⟩
    obtain ⟨f', rfl⟩ : ∃ f', f = f' + 1 := ⟨f - 1, by omega⟩
    have hone : nI t + Int32.ofInt 1 = nI (t + 1) := nI_add t 1
    rw [jl_loop5_s]; unfold bX10_ordersOf_31
    rw [hM.1, if_pos (by rw [nI_leI (by omega) (by omega)]; omega), jl_let_eq, hone]
  | succ m ih =>
    intro u v fore hu hv hj
    have hone : nI u + Int32.ofInt 1 = nI (u + 1) := nI_add u 1
    have hput : ∀ (K : Int32 → Int32 → (Nat → Int32) → (Nat → Int32) → Option (Int32 × (Nat → Int32) × (Nat → Int32))) (L : Int32 → Int32 → Int32 → (Nat → Int32) → (Nat → Int32) → Option (Int32 × (Nat → Int32) × (Nat → Int32))) (x : Nat), fX10_ordersOf_105 F stones has slot K L (nI (frS w)) (nI t) (nI u) (nI x) (nI v) (nI t) fore back = L (nI (frS w)) (nI t) (nI (u + 1)) (upd fore t (nI (v + x))) back := by
      intro K L x
      unfold fX10_ordersOf_105
      rw [if_neg (in512 ht), nI_clamp (by omega), nI_add, jl_let_eq, jl_let_eq, hone]
    have hsum : ∀ x, x = fT g w t u → v + x + fb_sm (fun s => fT g w t (u + 1 + s)) m = v + fb_sm (fun s => fT g w t (u + s)) (m + 1) := by
      intro x hx
      have e : fb_sm (fun s => fT g w t (u + s)) (1 + m) = fb_sm (fun s => fT g w t (u + s)) 1 + fb_sm (fun s => fT g w t (u + (1 + s))) m := fb_sm_split _ 1 m
      have e1 : fb_sm (fun s => fT g w t (u + s)) 1 = fT g w t u := by
        show 0 + fT g w t (u + 0) = _
        rw [Nat.zero_add, Nat.add_zero]
      rw [Nat.add_comm m 1, e, e1, hx, Nat.add_assoc]
      congr 2
      refine fb_sm_cong (fun s _ => ?_)
      rw [Nat.add_assoc]
    have hlast : ∀ (x : Nat), x = fT g w t u → (∀ (K : Int32 → Int32 → (Nat → Int32) → (Nat → Int32) → Option (Int32 × (Nat → Int32) × (Nat → Int32))) (L : Int32 → Int32 → Int32 → (Nat → Int32) → (Nat → Int32) → Option (Int32 × (Nat → Int32) × (Nat → Int32))), bX10_ordersOf_31 F stones has slot K L (nI (frS w)) (nI t) (nI u) fore back = fX10_ordersOf_105 F stones has slot K L (nI (frS w)) (nI t) (nI u) (nI x) (nI v) (nI t) fore back) → ∃ fore', (∀ (K : Int32 → Int32 → (Nat → Int32) → (Nat → Int32) → Option (Int32 × (Nat → Int32) × (Nat → Int32))) f, m + 1 < f → jl_loop5 (bX10_ordersOf_31 F stones has slot K) f (nI (frS w)) (nI t) (nI u) fore back = K (nI (frS w)) (nI (t + 1)) fore' back) ∧ fore' t = nI (v + fb_sm (fun s => fT g w t (u + s)) (m + 1)) ∧ ∀ j, j < t → adn j (frS w) = 0 → fore' j = nI (KF g w j) := by
      intro x hx hb
      obtain ⟨fore', r1, r2, r3⟩ := ih (u + 1) (v + x) (upd fore t (nI (v + x))) (by omega) (upd_s rfl) (fun j h1 h2 => by rw [upd_n (by omega)]; exact hj j h1 h2)
      refine ⟨fore', fun K f hf => ?_, by rw [r2, hsum x hx], r3⟩
      obtain ⟨f', rfl⟩ : ∃ f', f = f' + 1 := ⟨f - 1, by omega⟩
      rw [jl_loop5_s, hb, hput]
      exact r1 K f' (by omega)
    have hb : (nI t >>> (nI u &&& 31)) &&& 1 = nI (t.testBit u).toNat := ni_bit (by omega) (by omega)
    have hmt : fX10_many F (nI t) = some (nI (fb_ct t.testBit 9)) := many_ok (by omega) (by omega)
    have hct := fb_ct_le t.testBit 9
    have h74 : ∀ (K : Int32 → Int32 → (Nat → Int32) → (Nat → Int32) → Option (Int32 × (Nat → Int32) × (Nat → Int32))) (L : Int32 → Int32 → Int32 → (Nat → Int32) → (Nat → Int32) → Option (Int32 × (Nat → Int32) × (Nat → Int32))), fX10_ordersOf_74 F stones has slot K L (nI (frS w)) (nI t) (nI u) fore back = fX10_ordersOf_105 F stones has slot K L (nI (frS w)) (nI t) (nI u) (nI 0) (nI v) (nI t) fore back := by
      intro K L
      unfold fX10_ordersOf_74 fX10_ordersOf_75
      rw [if_neg (in512 ht), if_pos rfl, nI_clamp (by omega), hv]; rfl
    cases htb : t.testBit u with
    | false =>
      refine hlast 0 (by unfold fT; rw [htb]; rfl) (fun K L => ?_)
      unfold bX10_ordersOf_31
      rw [if_neg (by rw [hM.1, nI_leI (by omega) (by omega)]; omega), if_pos (by rw [ni_sub0 ht]; exact hsub), hb, htb, if_neg (by decide)]
      exact h74 K L
    | true =>
      have hfu := fr_lt hg hW (sub_tb ht hsub htb)
      have hpos : 1 ≤ fb_ct t.testBit 9 := by
        have := rem_ct ht (show u < 9 by omega) htb; omega
      have hby := isBy_ok hM hS (s := u) (n := fb_ct t.testBit 9 - 1) (by omega) hfu.2.1 hfu.2.2.1 (by omega)
      have hm1 : nI (fb_ct t.testBit 9) - (1 : Int32) = nI (fb_ct t.testBit 9 - 1) := pk_sub (b := 1) hpos
      have hrl := rem_lt ht htb
      have hrs : adn (adn t (2 ^ u)) (frS w) = 0 := sub_of (by omega) (fun s hs => by
        rw [adn_tb (by omega), Bool.and_eq_true] at hs
        exact sub_tb ht hsub hs.1)
      have hix : nI t &&& (((1 : Int32) <<< (nI u &&& 31)) ^^^ (-1 : Int32)) = nI (adn t (2 ^ u)) := by
        rw [one_shl (by omega), ni_m1, ni_adn]
      cases hbA : bA g w ((fb_ct t.testBit 9 - 1) % 2) u with
      | false =>
        refine hlast 0 (by unfold fT; rw [htb, hbA]; rfl) (fun K L => ?_)
        unfold bX10_ordersOf_31
        rw [if_neg (by rw [hM.1, nI_leI (by omega) (by omega)]; omega), if_pos (by rw [ni_sub0 ht]; exact hsub), hb, htb, if_pos (by decide), hmt, Option.bind_some, hm1, hby, hbA, Option.bind_some, if_f]
        exact h74 K L
      | true =>
        refine hlast (KF g w (adn t (2 ^ u))) (by unfold fT; rw [htb, hbA]; rfl) (fun K L => ?_)
        unfold bX10_ordersOf_31
        rw [if_neg (by rw [hM.1, nI_leI (by omega) (by omega)]; omega), if_pos (by rw [ni_sub0 ht]; exact hsub), hb, htb, if_pos (by decide), hmt, Option.bind_some, hm1, hby, hbA, Option.bind_some, if_t]
        unfold fX10_ordersOf_75
        rw [if_neg (in512 ht), if_neg (by decide), hix, if_neg (in512 (by omega)), nI_clamp (by omega), nI_clamp (by omega), hv, hj _ hrl hrs]
theorem fore_ok {g : JP} (hg : GOK g) {stones : Int32} {told touches has old beside slot : Nat → Int32} (hM : MR g stones told touches has old beside) {w : JW} (hW : WOK g w) (hS : SW slot 0 w) {F : Nat} (hF : 12 ≤ F) (back : Nat → Int32) :
    ∀ m t (fore : Nat → Int32), t + m = 512 → (∀ j, j < t → adn j (frS w) = 0 → fore j = nI (KF g w j)) → ∃ fore', (∀ f, m < f → jl_loop4 (bX10_ordersOf_7 F stones has slot) f (nI (frS w)) (nI t) fore back = lX10_ordersOf_123 F stones has slot F (nI (frS w)) 511 fore' back) ∧ ∀ j, j < 512 → adn j (frS w) = 0 → fore' j = nI (KF g w j) := by
  obtain ⟨hn1, hn9, -, -⟩ := gn hg
  have hfr := frS_lt w
  intro m
  induction m with
  | zero =>
    intro t fore ht hj
    refine ⟨fore, fun f hf => ?_, fun j h1 h2 => hj j (by omega) h2⟩
    obtain ⟨f', rfl⟩ : ∃ f', f = f' + 1 := ⟨f - 1, by omega⟩
    rw [jl_loop4_s]; unfold bX10_ordersOf_7
    rw [if_pos (by rw [show (512 : Int32) = nI 512 from rfl, nI_leI (by omega) (by omega)]; omega)]
  | succ m ih =>
    intro t fore ht hj
    have h28 : ∀ (L : Int32 → Int32 → (Nat → Int32) → (Nat → Int32) → Option (Int32 × (Nat → Int32) × (Nat → Int32))), bX10_ordersOf_7 F stones has slot L (nI (frS w)) (nI t) fore back = jl_loop5 (bX10_ordersOf_31 F stones has slot L) F (nI (frS w)) (nI t) (nI 0) (upd fore t (nI (if t = 0 then 1 else 0))) back := by
      intro L
      unfold bX10_ordersOf_7 fX10_ordersOf_28 lX10_ordersOf_31
      rw [if_neg (by rw [show (512 : Int32) = nI 512 from rfl, nI_leI (by omega) (by omega)]; omega), if_neg (in512 (by omega)), if_neg (in512 (by omega)), nI_clamp (by omega)]
      simp only [jl_let_eq]
      by_cases h0 : t = 0
      · rw [if_pos (by rw [h0]; rfl), if_pos h0]; rfl
      · rw [if_neg (by rw [show (0 : Int32) = nI 0 from rfl, nI_eq (by omega) (by omega)]; exact h0), if_neg h0]; rfl
    by_cases hsub : adn t (frS w) = 0
    · obtain ⟨fore1, r1, r2, r3⟩ := fore_in hg hM hW hS hF (t := t) (by omega) back hsub (pn g) 0 (if t = 0 then 1 else 0) (upd fore t (nI (if t = 0 then 1 else 0))) (by omega) (upd_s rfl) (fun j h1 h2 => by rw [upd_n (by omega)]; exact hj j h1 h2)
      have hval : fore1 t = nI (KF g w t) := by
        rw [r2, ← fT_sum hg hW (by omega) hsub]
        congr 2
        exact fb_sm_cong (fun s _ => by rw [Nat.zero_add])
      obtain ⟨fore2, q1, q2⟩ := ih (t + 1) fore1 (by omega) (fun j h1 h2 => by
        by_cases e : j = t
        · rw [e]; exact hval
        · exact r3 j (by omega) h2)
      refine ⟨fore2, fun f hf => ?_, q2⟩
      obtain ⟨f', rfl⟩ : ∃ f', f = f' + 1 := ⟨f - 1, by omega⟩
      rw [jl_loop4_s, h28, r1 _ F (by omega)]
      exact q1 f' (by omega)
    · have hskip : ∀ (L : Int32 → Int32 → (Nat → Int32) → (Nat → Int32) → Option (Int32 × (Nat → Int32) × (Nat → Int32))) (fo : Nat → Int32), jl_loop5 (bX10_ordersOf_31 F stones has slot L) F (nI (frS w)) (nI t) (nI 0) fo back = L (nI (frS w)) (nI (t + 1)) fo back := by
        intro L fo
        obtain ⟨F', rfl⟩ : ∃ F', F = F' + 1 := ⟨F - 1, by omega⟩
        have hone : nI t + Int32.ofInt 1 = nI (t + 1) := nI_add t 1
        rw [jl_loop5_s]
        generalize jl_loop5 (bX10_ordersOf_31 (F' + 1) stones has slot L) F' = L2
        unfold bX10_ordersOf_31
        rw [if_neg (by rw [hM.1, nI_leI (by omega) (by omega)]; omega), if_neg (by rw [ni_sub0 (by omega)]; exact hsub), jl_let_eq, hone]
      obtain ⟨fore2, q1, q2⟩ := ih (t + 1) (upd fore t (nI (if t = 0 then 1 else 0))) (by omega) (fun j h1 h2 => by
        by_cases e : j = t
        · rw [e] at h2; exact absurd h2 hsub
        · rw [upd_n e]; exact hj j (by omega) h2)
      refine ⟨fore2, fun f hf => ?_, q2⟩
      obtain ⟨f', rfl⟩ : ∃ f', f = f' + 1 := ⟨f - 1, by omega⟩
      rw [jl_loop4_s, h28, hskip]
      exact q1 f' (by omega)
/-- what is added for a set, from the sets with its next stone -/
def bT (g : JP) (w : JW) (t s : Nat) : Nat := if ((adn (frS w) t).testBit s && bA g w (fb_ct t.testBit 9 % 2) s) = true then KB g w (t ||| 2 ^ s) else 0
theorem or_rem {a t s : Nat} (ha : a < 2 ^ 9) : adn a (t ||| 2 ^ s) = adn (adn a t) (2 ^ s) := by
  apply Nat.eq_of_testBit_eq; intro i
  rw [adn_tb (by omega), adn_tb (adn_lt (show a < 2 ^ 32 by omega)), adn_tb (by omega), Nat.testBit_or]
  cases a.testBit i <;> cases t.testBit i <;> simp
theorem sub_ct {t k : Nat} (ht : t < 2 ^ 9) (hk : k < 2 ^ 9) (h : adn t k = 0) : fb_ct (adn k t).testBit 9 + fb_ct t.testBit 9 = fb_ct k.testBit 9 := by
  rw [← fb_ct_or (fun i _ q => by
    rw [adn_tb (by omega), Bool.and_eq_true] at q
    rw [q.2] at q; simp at q)]
  refine fb_ct_cong (fun i _ => ?_)
  rw [adn_tb (by omega)]
  cases hi : t.testBit i
  · simp
  · rw [sub_tb ht h hi]; rfl
theorem or_lt {t s : Nat} (ht : t < 2 ^ 9) (hs : s < 9) : t ||| 2 ^ s < 2 ^ 9 := Nat.or_lt_two_pow ht (Nat.pow_lt_pow_right (by omega) hs)
theorem or_gt {t s : Nat} (hb : t.testBit s = false) : t < t ||| 2 ^ s := by
  have h1 : t ≤ t ||| 2 ^ s := Nat.left_le_or
  have h2 : t ≠ t ||| 2 ^ s := by
    intro e
    have := congrArg (fun z => z.testBit s) e
    simp only [Nat.testBit_or, Nat.testBit_two_pow, hb, decide_true, Bool.or_true] at this
    cases this
  omega
theorem or_ct {t s : Nat} (ht : t < 2 ^ 9) (hs : s < 9) (hb : t.testBit s = false) : fb_ct (t ||| 2 ^ s).testBit 9 = fb_ct t.testBit 9 + 1 := by
  have h := rem_ct (m := t ||| 2 ^ s) (or_lt ht hs) hs (by rw [Nat.testBit_or, Nat.testBit_two_pow]; simp)
  have e : adn (t ||| 2 ^ s) (2 ^ s) = t := by
    apply Nat.eq_of_testBit_eq; intro i
    have := or_lt ht hs
    rw [adn_tb (by omega), Nat.testBit_or, Nat.testBit_two_pow]
    by_cases q : s = i
    · subst q; rw [hb]; simp
    · simp [q]
  rw [e] at h
  exact h.symm
theorem bT_sum {g : JP} (hg : GOK g) {w : JW} (hW : WOK g w) {t : Nat} (ht : t < 2 ^ 9) (hsub : adn t (frS w) = 0) : (if t = frS w then 1 else 0) + fb_sm (bT g w t) (pn g) = KB g w t := by
  obtain ⟨hn1, hn9, -, -⟩ := gn hg
  have hfr := frS_lt w
  have hR : adn (frS w) t < 2 ^ 9 := adn_lt hfr
  have hN := fr_ct hg hW
  have hct := sub_ct ht hfr hsub
  rw [hN] at hct
  rw [sm_cut hn9 (fun s h1 h2 => by
    unfold bT
    rw [if_neg]
    intro h
    rw [Bool.and_eq_true, adn_tb (by omega), Bool.and_eq_true] at h
    have := (fr_lt hg hW h.1.1).1
    omega)]
  by_cases h0 : t = frS w
  · rw [if_pos h0]
    have hz : adn (frS w) t = 0 := by rw [h0]; exact sub_of hfr (fun s hs => hs)
    have : ∀ s, s < 9 → bT g w t s = 0 := fun s _ => by unfold bT; rw [hz, Nat.zero_testBit]; rfl
    rw [fb_sm_cong this, fb_sm_const]
    have hz2 : fb_ct (Nat.testBit 0) 9 = 0 := fb_ct_zero.mpr (fun k _ => Nat.zero_testBit k)
    rw [hz, hz2] at hct
    unfold KB Kc
    rw [hz, cX_0, cX_0, cX_0, show fb_ct t.testBit 9 = w.2.1.length by omega, Nat.sub_self, Nat.sub_self]; rfl
  · rw [if_neg h0, Nat.zero_add]
    have hpos : 0 < fb_ct (adn (frS w) t).testBit 9 := by
      rcases Nat.eq_zero_or_pos (fb_ct (adn (frS w) t).testBit 9) with q | q
      · exfalso
        apply h0
        rw [fb_ct_zero] at q
        have hz : adn (frS w) t = 0 := by
          rw [← nb_of (n := 9) hR]
          exact nb_zero.mpr q
        exact Nat.le_antisymm (sub_le ht hfr hsub) (sub_le hfr ht hz)
      · exact q
    have hor : ∀ s, s < 9 → (adn (frS w) t).testBit s = true → fb_ct (t ||| 2 ^ s).testBit 9 = fb_ct t.testBit 9 + 1 := fun s hs hb => by
      rw [adn_tb (by omega), Bool.and_eq_true, Bool.not_eq_true'] at hb
      exact or_ct ht hs hb.2
    unfold KB
    rcases (show fb_ct t.testBit 9 % 2 = 0 ∨ fb_ct t.testBit 9 % 2 = 1 by omega) with q | q
    · rw [← Kc_sum0 (a0 := bA g w 0) (a1 := bA g w 1) hR (a := (w.2.1.length + 1) / 2 - (fb_ct t.testBit 9 + 1) / 2) (b := w.2.1.length / 2 - fb_ct t.testBit 9 / 2) (by omega) (by omega)]
      refine fb_sm_cong (fun s hs => ?_)
      unfold bT KB
      rw [q]
      by_cases hb : ((adn (frS w) t).testBit s && bA g w 0 s) = true
      · rw [if_pos hb, if_pos hb]
        rw [Bool.and_eq_true] at hb
        rw [hor s hs hb.1, or_rem hfr]
        congr 1 <;> omega
      · rw [if_neg hb, if_neg hb]
    · rw [← Kc_sum1 (a0 := bA g w 0) (a1 := bA g w 1) hR (a := (w.2.1.length + 1) / 2 - (fb_ct t.testBit 9 + 1) / 2) (b := w.2.1.length / 2 - fb_ct t.testBit 9 / 2) (by omega) (by omega)]
      refine fb_sm_cong (fun s hs => ?_)
      unfold bT KB
      rw [q]
      by_cases hb : ((adn (frS w) t).testBit s && bA g w 1 s) = true
      · rw [if_pos hb, if_pos hb]
        rw [Bool.and_eq_true] at hb
        rw [hor s hs hb.1, or_rem hfr]
        congr 1 <;> omega
      · rw [if_neg hb, if_neg hb]
theorem back_in {g : JP} (hg : GOK g) {stones : Int32} {told touches has old beside slot : Nat → Int32} (hM : MR g stones told touches has old beside) {w : JW} (hW : WOK g w) (hS : SW slot 0 w) {F : Nat} (hF : 12 ≤ F) {t : Nat} (ht : t < 512) (fore : Nat → Int32) (hsub : adn t (frS w) = 0) :
    ∀ m u v (back : Nat → Int32), u + m = pn g → back t = nI v → (∀ j, t < j → j < 512 → adn j (frS w) = 0 → back j = nI (KB g w j)) → ∃ back', (∀ (K : Int32 → Int32 → (Nat → Int32) → (Nat → Int32) → Option (Int32 × (Nat → Int32) × (Nat → Int32))) f, m < f → jl_loop5 (bX10_ordersOf_145 F stones has slot K) f (nI (frS w)) (nI t) (nI u) fore back = K (nI (frS w)) (nI t + Int32.ofInt (-1)) fore back') ∧ back' t = nI (v + fb_sm (fun s => bT g w t (u + s)) m) ∧ ∀ j, t < j → j < 512 → adn j (frS w) = 0 → back' j = nI (KB g w j) := by
  obtain ⟨hn1, hn9, -, -⟩ := gn hg
  have hfr := frS_lt w
  intro m
  induction m with
  | zero =>
    intro u v back hu hv hj
    refine ⟨back, fun K f hf => ?_, by rw [show fb_sm _ 0 = 0 from rfl, Nat.add_zero]; exact hv, hj⟩
    obtain ⟨f', rfl⟩ : ∃ f', f = f' + 1 := ⟨f - 1, by omega⟩
    rw [jl_loop5_s]; unfold bX10_ordersOf_145
    rw [hM.1, if_pos (by rw [nI_leI (by omega) (by omega)]; omega), jl_let_eq]
  | succ m ih =>
    intro u v back hu hv hj
    have hone : nI u + Int32.ofInt 1 = nI (u + 1) := nI_add u 1
    have hput : ∀ (K : Int32 → Int32 → (Nat → Int32) → (Nat → Int32) → Option (Int32 × (Nat → Int32) × (Nat → Int32))) (L : Int32 → Int32 → Int32 → (Nat → Int32) → (Nat → Int32) → Option (Int32 × (Nat → Int32) × (Nat → Int32))) (x : Nat), fX10_ordersOf_218 F stones has slot K L (nI (frS w)) (nI t) (nI u) (nI x) (nI v) (nI t) fore back = L (nI (frS w)) (nI t) (nI (u + 1)) fore (upd back t (nI (v + x))) := by
      intro K L x
      unfold fX10_ordersOf_218
      rw [if_neg (in512 ht), nI_clamp (by omega), nI_add, jl_let_eq, jl_let_eq, hone]
    have hsum : ∀ x, x = bT g w t u → v + x + fb_sm (fun s => bT g w t (u + 1 + s)) m = v + fb_sm (fun s => bT g w t (u + s)) (m + 1) := by
      intro x hx
      have e : fb_sm (fun s => bT g w t (u + s)) (1 + m) = fb_sm (fun s => bT g w t (u + s)) 1 + fb_sm (fun s => bT g w t (u + (1 + s))) m := fb_sm_split _ 1 m
      have e1 : fb_sm (fun s => bT g w t (u + s)) 1 = bT g w t u := by
        show 0 + bT g w t (u + 0) = _
        rw [Nat.zero_add, Nat.add_zero]
      rw [Nat.add_comm m 1, e, e1, hx, Nat.add_assoc]
      congr 2
      refine fb_sm_cong (fun s _ => ?_)
      rw [Nat.add_assoc]
    have hlast : ∀ (x : Nat), x = bT g w t u → (∀ (K : Int32 → Int32 → (Nat → Int32) → (Nat → Int32) → Option (Int32 × (Nat → Int32) × (Nat → Int32))) (L : Int32 → Int32 → Int32 → (Nat → Int32) → (Nat → Int32) → Option (Int32 × (Nat → Int32) × (Nat → Int32))), bX10_ordersOf_145 F stones has slot K L (nI (frS w)) (nI t) (nI u) fore back = fX10_ordersOf_218 F stones has slot K L (nI (frS w)) (nI t) (nI u) (nI x) (nI v) (nI t) fore back) → ∃ back', (∀ (K : Int32 → Int32 → (Nat → Int32) → (Nat → Int32) → Option (Int32 × (Nat → Int32) × (Nat → Int32))) f, m + 1 < f → jl_loop5 (bX10_ordersOf_145 F stones has slot K) f (nI (frS w)) (nI t) (nI u) fore back = K (nI (frS w)) (nI t + Int32.ofInt (-1)) fore back') ∧ back' t = nI (v + fb_sm (fun s => bT g w t (u + s)) (m + 1)) ∧ ∀ j, t < j → j < 512 → adn j (frS w) = 0 → back' j = nI (KB g w j) := by
      intro x hx hb
      obtain ⟨back', r1, r2, r3⟩ := ih (u + 1) (v + x) (upd back t (nI (v + x))) (by omega) (upd_s rfl) (fun j h1 h2 h3 => by rw [upd_n (by omega)]; exact hj j h1 h2 h3)
      refine ⟨back', fun K f hf => ?_, by rw [r2, hsum x hx], r3⟩
      obtain ⟨f', rfl⟩ : ∃ f', f = f' + 1 := ⟨f - 1, by omega⟩
      rw [jl_loop5_s, hb, hput]
      exact r1 K f' (by omega)
    have hmt : fX10_many F (nI t) = some (nI (fb_ct t.testBit 9)) := many_ok (by omega) (by omega)
    have hct := fb_ct_le t.testBit 9
    have hRl : adn (frS w) t < 2 ^ 9 := adn_lt hfr
    have hcond : ((nI (frS w) &&& (nI t ^^^ (-1 : Int32))) &&& ((1 : Int32) <<< (nI u &&& 31)) = 0) ↔ (adn (frS w) t).testBit u = false := by
      rw [ni_m1, ni_adn, one_shl (by omega)]
      exact fa_bit (by omega)
    have h189 : ∀ (K : Int32 → Int32 → (Nat → Int32) → (Nat → Int32) → Option (Int32 × (Nat → Int32) × (Nat → Int32))) (L : Int32 → Int32 → Int32 → (Nat → Int32) → (Nat → Int32) → Option (Int32 × (Nat → Int32) × (Nat → Int32))), fX10_ordersOf_189 F stones has slot K L (nI (frS w)) (nI t) (nI u) fore back = fX10_ordersOf_218 F stones has slot K L (nI (frS w)) (nI t) (nI u) (nI 0) (nI v) (nI t) fore back := by
      intro K L
      unfold fX10_ordersOf_189 fX10_ordersOf_190
      rw [if_neg (in512 ht), if_pos rfl, nI_clamp (by omega), hv]; rfl
    cases htb : (adn (frS w) t).testBit u with
    | false =>
      refine hlast 0 (by unfold bT; rw [htb]; rfl) (fun K L => ?_)
      unfold bX10_ordersOf_145
      rw [if_neg (by rw [hM.1, nI_leI (by omega) (by omega)]; omega), if_pos (by rw [ni_sub0 ht]; exact hsub), if_pos (hcond.mpr htb)]
      exact h189 K L
    | true =>
      have htb2 := htb
      rw [adn_tb (by omega), Bool.and_eq_true, Bool.not_eq_true'] at htb2
      have hfu := fr_lt hg hW htb2.1
      have hby := isBy_ok hM hS (s := u) (n := fb_ct t.testBit 9) (by omega) hfu.2.1 hfu.2.2.1 (by omega)
      have hol := or_lt (t := t) (s := u) (by omega) (by omega)
      have hog := or_gt htb2.2
      have hos : adn (t ||| 2 ^ u) (frS w) = 0 := sub_of hol (fun s hs => by
        rw [Nat.testBit_or, Nat.testBit_two_pow, Bool.or_eq_true, decide_eq_true_eq] at hs
        rcases hs with hs | hs
        · exact sub_tb (by omega) hsub hs
        · rw [← hs]; exact htb2.1)
      have hix : nI t ||| ((1 : Int32) <<< (nI u &&& 31)) = nI (t ||| 2 ^ u) := by
        rw [one_shl (by omega), ni_or]
      cases hbA : bA g w (fb_ct t.testBit 9 % 2) u with
      | false =>
        refine hlast 0 (by unfold bT; rw [htb, hbA]; rfl) (fun K L => ?_)
        unfold bX10_ordersOf_145
        rw [if_neg (by rw [hM.1, nI_leI (by omega) (by omega)]; omega), if_pos (by rw [ni_sub0 ht]; exact hsub), if_neg (fun e => by rw [hcond.mp e] at htb; cases htb), hmt, Option.bind_some, hby, hbA, Option.bind_some, if_f]
        exact h189 K L
      | true =>
        refine hlast (KB g w (t ||| 2 ^ u)) (by unfold bT; rw [htb, hbA]; rfl) (fun K L => ?_)
        unfold bX10_ordersOf_145
        rw [if_neg (by rw [hM.1, nI_leI (by omega) (by omega)]; omega), if_pos (by rw [ni_sub0 ht]; exact hsub), if_neg (fun e => by rw [hcond.mp e] at htb; cases htb), hmt, Option.bind_some, hby, hbA, Option.bind_some, if_t]
        unfold fX10_ordersOf_190
        rw [if_neg (in512 ht), if_neg (by decide), hix, if_neg (in512 (by omega)), nI_clamp (by omega), nI_clamp (by omega), hv, hj _ hog (by omega) hos]
theorem back_ok {g : JP} (hg : GOK g) {stones : Int32} {told touches has old beside slot : Nat → Int32} (hM : MR g stones told touches has old beside) {w : JW} (hW : WOK g w) (hS : SW slot 0 w) {F : Nat} (hF : 12 ≤ F) (fore : Nat → Int32) :
    ∀ m (back : Nat → Int32), m ≤ 512 → (∀ j, m ≤ j → j < 512 → adn j (frS w) = 0 → back j = nI (KB g w j)) → ∃ back', (∀ f, m < f → jl_loop4 (bX10_ordersOf_123 F stones has slot) f (nI (frS w)) (nI m + Int32.ofInt (-1)) fore back = some (fore (frS w), fore, back')) ∧ ∀ j, j < 512 → adn j (frS w) = 0 → back' j = nI (KB g w j) := by
  obtain ⟨hn1, hn9, -, -⟩ := gn hg
  have hfr := frS_lt w
  intro m
  induction m with
  | zero =>
    intro back hm hj
    refine ⟨back, fun f hf => ?_, fun j h1 h2 => hj j (Nat.zero_le _) h1 h2⟩
    obtain ⟨f', rfl⟩ : ∃ f', f = f' + 1 := ⟨f - 1, by omega⟩
    rw [jl_loop4_s]; unfold bX10_ordersOf_123
    rw [if_pos (by decide), if_neg (in512 (by omega)), nI_clamp (by omega)]
  | succ t ih =>
    intro back ht hj
    have hm1 : nI (t + 1) + Int32.ofInt (-1) = nI t := ni_addm1 t
    rw [hm1]
    have h142 : ∀ (L : Int32 → Int32 → (Nat → Int32) → (Nat → Int32) → Option (Int32 × (Nat → Int32) × (Nat → Int32))), bX10_ordersOf_123 F stones has slot L (nI (frS w)) (nI t) fore back = jl_loop5 (bX10_ordersOf_145 F stones has slot L) F (nI (frS w)) (nI t) (nI 0) fore (upd back t (nI (if t = frS w then 1 else 0))) := by
      intro L
      unfold bX10_ordersOf_123 fX10_ordersOf_142 lX10_ordersOf_145
      rw [if_neg (nI_pos (by omega)), if_neg (in512 (by omega)), if_neg (in512 (by omega)), nI_clamp (by omega)]
      simp only [jl_let_eq]
      by_cases h0 : t = frS w
      · rw [if_pos (by rw [h0]), if_pos h0]; rfl
      · rw [if_neg (by rw [nI_eq (by omega) (by omega)]; exact h0), if_neg h0]; rfl
    by_cases hsub : adn t (frS w) = 0
    · obtain ⟨back1, r1, r2, r3⟩ := back_in hg hM hW hS hF (t := t) (by omega) fore hsub (pn g) 0 (if t = frS w then 1 else 0) (upd back t (nI (if t = frS w then 1 else 0))) (by omega) (upd_s rfl) (fun j h1 h2 h3 => by rw [upd_n (by omega)]; exact hj j h1 h2 h3)
      have hval : back1 t = nI (KB g w t) := by
        rw [r2, ← bT_sum hg hW (by omega) hsub]
        congr 2
        exact fb_sm_cong (fun s _ => by rw [Nat.zero_add])
      obtain ⟨back2, q1, q2⟩ := ih back1 (by omega) (fun j h1 h2 h3 => by
        by_cases e : j = t
        · rw [e]; exact hval
        · exact r3 j (by omega) h2 h3)
      refine ⟨back2, fun f hf => ?_, q2⟩
      obtain ⟨f', rfl⟩ : ∃ f', f = f' + 1 := ⟨f - 1, by omega⟩
      rw [jl_loop4_s, h142, r1 _ F (by omega)]
      exact q1 f' (by omega)
    · have hskip : ∀ (L : Int32 → Int32 → (Nat → Int32) → (Nat → Int32) → Option (Int32 × (Nat → Int32) × (Nat → Int32))) (ba : Nat → Int32), jl_loop5 (bX10_ordersOf_145 F stones has slot L) F (nI (frS w)) (nI t) (nI 0) fore ba = L (nI (frS w)) (nI t + Int32.ofInt (-1)) fore ba := by
        intro L ba
        obtain ⟨F', rfl⟩ : ∃ F', F = F' + 1 := ⟨F - 1, by omega⟩
        rw [jl_loop5_s]
        generalize jl_loop5 (bX10_ordersOf_145 (F' + 1) stones has slot L) F' = L2
        unfold bX10_ordersOf_145
        rw [if_neg (by rw [hM.1, nI_leI (by omega) (by omega)]; omega), if_neg (by rw [ni_sub0 (by omega)]; exact hsub), jl_let_eq]
      obtain ⟨back2, q1, q2⟩ := ih (upd back t (nI (if t = frS w then 1 else 0))) (by omega) (fun j h1 h2 h3 => by
        by_cases e : j = t
        · rw [e] at h3; exact absurd h3 hsub
        · rw [upd_n e]; exact hj j (by omega) h2 h3)
      refine ⟨back2, fun f hf => ?_, q2⟩
      obtain ⟨f', rfl⟩ : ∃ f', f = f' + 1 := ⟨f - 1, by omega⟩
      rw [jl_loop4_s, h142, hskip]
      exact q1 f' (by omega)
theorem KF_all {g : JP} (hg : GOK g) {w : JW} (hW : WOK g w) : KF g w (frS w) = ordN g w := by
  unfold KF ordN
  rw [fr_ct hg hW]
theorem ordersOf_ok {g : JP} (hg : GOK g) {stones : Int32} {told touches has old beside slot : Nat → Int32} (hM : MR g stones told touches has old beside) {w : JW} (hW : WOK g w) (hS : SW slot 0 w) {F : Nat} (hF : 600 ≤ F) (fore back : Nat → Int32) : ∃ fore' back', fX10_ordersOf F stones has slot fore back = some (nI (ordN g w), fore', back') ∧ (∀ j, j < 512 → adn j (frS w) = 0 → fore' j = nI (KF g w j)) ∧ ∀ j, j < 512 → adn j (frS w) = 0 → back' j = nI (KB g w j) := by
  have hfr := frS_lt w
  obtain ⟨fore', f1, f2⟩ := fore_ok hg hM hW hS (F := F) (by omega) back 512 0 fore rfl (fun j hj => absurd hj (Nat.not_lt_zero j))
  obtain ⟨back', b1, b2⟩ := back_ok hg hM hW hS (F := F) (by omega) fore' 512 back (Nat.le_refl _) (fun j h1 h2 => by omega)
  refine ⟨fore', back', ?_, f2, b2⟩
  unfold fX10_ordersOf lX10_ordersOf_7
  rw [fresh_ok hg hW hS (by omega), Option.bind_some]
  have h1 := f1 F (by omega)
  have h2 := b1 F (by omega)
  rw [f2 (frS w) (by omega) (sub_of hfr (fun s hs => hs)), KF_all hg hW] at h2
  rw [show (0 : Int32) = nI 0 from rfl, h1]
  exact h2
theorem st_orders : St_orders Inv_ := by
  intro x_text_length x_text_bytes_ x_reader_at x_reader_first x_reader_second x_reader_stoneTold x_reader_paintTold x_wall_worn x_wall_turn x_wall_order x_wall_pastLength x_wall_heldLength x_wall_past_ x_wall_held_ x_row_length x_row_paintings_ x_game_known_ x_lot_above x_lot_below x_laid_rows x_laid_columns x_laid_paints x_laid_apart x_laid_paintsOf0 x_laid_paintsOf1 x_laid_old x_laid_shut x_laid_all x_laid_firstColumn x_laid_fitsAtFirst x_laid_paintingsOf0 x_laid_paintingsOf1 x_laid_ruledOut_ x_spare_rows x_spare_columns x_spare_paints x_spare_apart x_spare_paintsOf0 x_spare_paintsOf1 x_spare_old x_spare_shut x_spare_all x_spare_firstColumn x_spare_fitsAtFirst x_spare_paintingsOf0 x_spare_paintingsOf1 x_spare_ruledOut_ y_length y_at y_stones y_kept y_done y_rows y_frees y_fewest y_text_ y_told_ y_touches_ y_has_ y_old_ y_beside_ y_slot_ y_row_ y_free_ y_worth_ y_fore_ y_back_ y_got_
  intro hI
  replace hI : InvC x_text_length x_text_bytes_ x_reader_at x_reader_first x_reader_second x_reader_stoneTold x_reader_paintTold x_wall_worn x_wall_turn x_wall_order x_wall_pastLength x_wall_heldLength x_wall_past_ x_wall_held_ x_row_length x_row_paintings_ x_game_known_ x_lot_above x_lot_below x_laid_rows x_laid_columns x_laid_paints x_laid_apart x_laid_paintsOf0 x_laid_paintsOf1 x_laid_old x_laid_shut x_laid_all x_laid_firstColumn x_laid_fitsAtFirst x_laid_paintingsOf0 x_laid_paintingsOf1 x_laid_ruledOut_ x_spare_rows x_spare_columns x_spare_paints x_spare_apart x_spare_paintsOf0 x_spare_paintsOf1 x_spare_old x_spare_shut x_spare_all x_spare_firstColumn x_spare_fitsAtFirst x_spare_paintingsOf0 x_spare_paintingsOf1 x_spare_ruledOut_ y_length y_at y_stones y_kept y_done y_rows y_frees y_fewest y_text_ y_told_ y_touches_ y_has_ y_old_ y_beside_ y_slot_ y_row_ y_free_ y_worth_ y_fore_ y_back_ y_got_ := hI
  obtain ⟨g, w, d, ps, e, ks, r, rs, len, hg, hIT, hXU, hXS, hMR, hIW, hIP, hIH, hIR, hMem⟩ := hI
  obtain ⟨hW, rfl, rfl, rfl, hSW⟩ := hIW
  obtain ⟨fo, ba, h1, -, -⟩ := ordersOf_ok hg hMR hW hSW (FU_ge (n := 600) (by omega)) y_fore_ y_back_
  have hx := x_ordersOf hg hXU hW (FU_ge (n := 12) (by omega))
  refine ⟨nI (ordN g w), (nI (ordN g w), fo, ba), ?_, ?_, Eq.refl (nI (ordN g w)), ?_⟩
  · unfold fX9_orders
    rw [hXU.2.2.2.2.2.2.1, x_loose, Option.bind_some, hx]; rfl
  · unfold fX10_orders
    rw [h1]; rfl
  · exact ⟨g, w, d, ps, e, ks, r, rs, len, hg, hIT, hXU, hXS, hMR, ⟨hW, rfl, rfl, rfl, hSW⟩, hIP, hIH, hIR, hMem⟩
